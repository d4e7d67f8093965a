set_option maxRecDepth 100000 in
set_option maxHeartbeats 4000000 in
theorem s_Qs_init_0 {l : Launch} {X : ev_X} {bc bs n : Nat} {F : ev_H} {Q : Option Value → Nat → ev_H → Prop} {r0 : Nat} {rc5 : Nat} {rs5 : Nat} {Q9 : Option Value → Nat → ev_H → Prop} {bc9 : Nat} {bs9 : Nat} {rc9 : Nat} {rs9 : Nat} (hb_rc5 : rc5 + 1 ≤ bc) (hs_rs5 : rs5 + 3 ≤ bs) (hb_rc9 : rc9 + bc9 ≤ rc5) (hs_rs9 : rs9 + bs9 ≤ rs5)
    (c9_0 : Cal l X M_AL_init bc9 bs9 [.ref n] (n + 1) (ev_up F n (.inr (12, [.null, .int 0, .int 0]))) Q9)
    (k12_1 : ∀ v2 n2 F2, Q9 v2 n2 F2 → Ev l X M_Qs_init rc9 rs9 12 [(0, .ref r0)] (v2.toList ++ [.ref n, .ref r0]) n2 F2 (ev_mq X Q)) :
    Ev l X M_Qs_init bc bs 0 [(0, .ref r0)] [] n F (ev_mq X Q) := by
  refine ev_aload_n (pc := 0) d_Qs_init_0 rfl ?_
  refine ev_objInit (pc := 1) d_Qs_init_1 wd_138 wd_33 wd_34 (Nat.le_of_ble_eq_true rfl) (Nat.le_of_ble_eq_true rfl) ?_
  refine ev_aload_n (pc := 4) d_Qs_init_4 rfl ?_
  refine ev_fresh fun fr5 => ?_
  refine ev_new (pc := 5) 12 [.null, .int 0, .int 0] d_Qs_init_5 ck_12 wd_139 wd_60 wd_6 (by decide +kernel) (bc2 := rc5) (bs2 := rs5) hb_rc5 hs_rs5 (fun F1_ hF1_ => ?_)
  have g2_ : F1_ n = some (.inr (12, [.null, .int 0, .int 0])) := by rw [← hF1_]; exact ev_up_s
  refine ev_dup (pc := 8) d_Qs_init_8 rfl ?_
  exact ev_init (pc := 9) (As := []) (st := [.ref n, .ref r0]) (Q2 := Q9) M_AL_init d_Qs_init_9 lc_Qs_11 rfl rfl wd_62 rfl rfl (Nat.le_of_ble_eq_true rfl) (Nat.le_of_ble_eq_true rfl) (Nat.le_of_ble_eq_true rfl) hb_rc9 hs_rs9 (by subst hF1_; exact c9_0) k12_1

set_option maxRecDepth 100000 in
set_option maxHeartbeats 4000000 in
theorem s_Qs_init_12 {l : Launch} {X : ev_X} {bc bs n : Nat} {F : ev_H} {Q : Option Value → Nat → ev_H → Prop} {r0 : Nat} {rs0 : Nat} {rs1 : Nat} {irs0_height : Int32} {rc18 : Nat} {rs18 : Nat} {ir0_height : Int32} (h_rs0 : F rs0 = some (.inr (5, [.ref (rs0 + 1), .ref (rs0 + 2), .int irs0_height]))) (hb_rc18 : rc18 + 1 ≤ bc) (hs_rs18 : rs18 + 8 ≤ bs) (h_r0 : F r0 = some (.inr (5, [.null, .null, .int ir0_height]))) (ne_r0_rs0 : r0 ≠ rs0) (ne_rs0_r0 : rs0 ≠ r0)
    (q28_0 : Q none (n + 1) (ev_up (ev_up (ev_up (ev_up F rs0 (.inr (5, [.ref rs1, .ref (rs0 + 2), .int irs0_height]))) n (.inl (0, 8, .inl (fun _ => 0)))) r0 (.inr (5, [.null, .ref n, .int ir0_height]))) r0 (.inr (5, [.null, .ref n, .int 0])))) :
    Ev l X M_Qs_init bc bs 12 [(0, .ref r0)] [.ref rs1, .ref rs0] n F (ev_mq X Q) := by
  refine ev_putfield (pc := 12) 0 _ d_Qs_init_12 fl_Qs_12 h_rs0 (ev_pfn (r0 := rC5) (ty := (.object "java/util/ArrayList")) rfl (Or.inr ⟨rfl, rfl, rfl⟩) (by decide +kernel)) rfl rfl (Nat.le_of_ble_eq_true rfl) (fun F1_ hF1_ => ?_)
  have g2_ : F1_ rs0 = some (.inr (5, [.ref rs1, .ref (rs0 + 2), .int irs0_height])) := by rw [← hF1_]; exact ev_up_s
  refine ev_aload_n (pc := 15) d_Qs_init_15 rfl ?_
  refine ev_bipush (pc := 16) 8 d_Qs_init_16 (by decide) ?_
  refine ev_fresh fun fr18 => ?_
  refine ev_newarray (pc := 18) 0 8 (8, .inl (fun _ => 0)) d_Qs_init_18 wd_153 rfl rfl (fun _ _ h => h) (fun _ => rfl) (by decide) (by decide) (by decide) (bc2 := rc18) (bs2 := rs18) hb_rc18 hs_rs18 (fun F3_ hF3_ => ?_)
  have g4_ : F3_ rs0 = some (.inr (5, [.ref rs1, .ref (rs0 + 2), .int irs0_height])) := by rw [← hF3_]; exact ev_up_k (ev_nf g2_ (fr18 _ (Nat.le_refl _))) g2_
  have g5_ : F3_ n = some (.inl (0, 8, .inl (fun _ => 0))) := by rw [← hF3_]; exact ev_up_s
  have g6_ : F1_ r0 = some (.inr (5, [.null, .null, .int ir0_height])) := by rw [← hF1_]; exact ev_up_k ne_r0_rs0 h_r0
  have g7_ : F3_ r0 = some (.inr (5, [.null, .null, .int ir0_height])) := by rw [← hF3_]; exact ev_up_k (ev_nf g6_ (fr18 _ (Nat.le_refl _))) g6_
  refine ev_putfield (pc := 20) 1 _ d_Qs_init_20 fl_Qs_18 g7_ (ev_pfn (r0 := rC5) (ty := (.array .int)) rfl (Or.inr ⟨rfl, rfl, rfl⟩) (by decide +kernel)) rfl rfl (Nat.le_of_ble_eq_true rfl) (fun F8_ hF8_ => ?_)
  have g9_ : F8_ rs0 = some (.inr (5, [.ref rs1, .ref (rs0 + 2), .int irs0_height])) := by rw [← hF8_]; exact ev_up_k ne_rs0_r0 g4_
  have g10_ : F8_ n = some (.inl (0, 8, .inl (fun _ => 0))) := by rw [← hF8_]; exact ev_up_k (ev_ne_ao g5_ g7_) g5_
  have g11_ : F8_ r0 = some (.inr (5, [.null, .ref n, .int ir0_height])) := by rw [← hF8_]; exact ev_up_s
  refine ev_aload_n (pc := 23) d_Qs_init_23 rfl ?_
  refine ev_iconst (pc := 24) 0 d_Qs_init_24 (by decide) ?_
  refine ev_putfield (pc := 25) 2 _ d_Qs_init_25 fl_Qs_22 g11_ pf_5_height rfl rfl (Nat.le_of_ble_eq_true rfl) (fun F12_ hF12_ => ?_)
  have g13_ : F12_ rs0 = some (.inr (5, [.ref rs1, .ref (rs0 + 2), .int irs0_height])) := by rw [← hF12_]; exact ev_up_k ne_rs0_r0 g9_
  have g14_ : F12_ n = some (.inl (0, 8, .inl (fun _ => 0))) := by rw [← hF12_]; exact ev_up_k (ev_ne_ao g10_ g11_) g10_
  have g15_ : F12_ r0 = some (.inr (5, [.null, .ref n, .int 0])) := by rw [← hF12_]; exact ev_up_s
  exact ev_return (pc := 28) d_Qs_init_28 rfl (by subst hF1_ hF3_ hF8_ hF12_; exact q28_0)
set_option maxRecDepth 100000 in
set_option maxHeartbeats 4000000 in
theorem s_Qs_clear_0 {l : Launch} {X : ev_X} {bc bs n : Nat} {F : ev_H} {Q : Option Value → Nat → ev_H → Prop} {r0 : Nat} {ir0_height : Int32} {r0p1_elementData : Nat} {ir0p1_size : Int32} {ir0p1_modCount : Int32} {Q4 : Option Value → Nat → ev_H → Prop} {bc4 : Nat} {bs4 : Nat} {rc4 : Nat} {rs4 : Nat} (h_r0 : F r0 = some (.inr (5, [.ref (r0 + 1), .ref (r0 + 2), .int ir0_height]))) (h_r0p1 : F (r0 + 1) = some (.inr (12, [.ref r0p1_elementData, .int ir0p1_size, .int ir0p1_modCount]))) (hb_rc4 : rc4 + bc4 ≤ bc) (hs_rs4 : rs4 + bs4 ≤ bs)
    (c4_0 : Cal l X M_AL_clear bc4 bs4 [.ref (r0 + 1)] n F Q4)
    (k7_1 : ∀ v2 n2 F2, Q4 v2 n2 F2 → Ev l X M_Qs_clear rc4 rs4 7 [(0, .ref r0)] (v2.toList ++ []) n2 F2 (ev_mq X Q)) :
    Ev l X M_Qs_clear bc bs 0 [(0, .ref r0)] [] n F (ev_mq X Q) := by
  refine ev_aload_n (pc := 0) d_Qs_clear_0 rfl ?_
  refine ev_getfield (pc := 1) 0 d_Qs_clear_1 fl_Qs_12 h_r0 rfl ?_
  exact ev_invokevirtual (pc := 4) (As := []) (st := []) (Q2 := Q4) M_AL_clear rC12 d_Qs_clear_4 lc_Qs_26 wd_641 wd_642 rfl h_r0p1 rfl rfl (Nat.le_of_ble_eq_true rfl) (Nat.le_of_ble_eq_true rfl) (Nat.le_of_ble_eq_true rfl) hb_rc4 hs_rs4 c4_0 k7_1

set_option maxRecDepth 100000 in
set_option maxHeartbeats 4000000 in
theorem s_Qs_clear_7 {l : Launch} {X : ev_X} {bc bs n : Nat} {F : ev_H} {Q : Option Value → Nat → ev_H → Prop} {r0 : Nat} {ir0_height : Int32} (h_r0 : F r0 = some (.inr (5, [.ref (r0 + 1), .ref (r0 + 2), .int ir0_height])))
    (q12_0 : Q none n (ev_up F r0 (.inr (5, [.ref (r0 + 1), .ref (r0 + 2), .int 0])))) :
    Ev l X M_Qs_clear bc bs 7 [(0, .ref r0)] [] n F (ev_mq X Q) := by
  refine ev_aload_n (pc := 7) d_Qs_clear_7 rfl ?_
  refine ev_iconst (pc := 8) 0 d_Qs_clear_8 (by decide) ?_
  refine ev_putfield (pc := 9) 2 _ d_Qs_clear_9 fl_Qs_22 h_r0 pf_5_height rfl rfl (Nat.le_of_ble_eq_true rfl) (fun F1_ hF1_ => ?_)
  have g2_ : F1_ r0 = some (.inr (5, [.ref (r0 + 1), .ref (r0 + 2), .int 0])) := by rw [← hF1_]; exact ev_up_s
  exact ev_return (pc := 12) d_Qs_clear_12 rfl (by subst hF1_; exact q12_0)
set_option maxRecDepth 100000 in
set_option maxHeartbeats 4000000 in
theorem s_Qs_pushTerm_0 {l : Launch} {X : ev_X} {bc bs n : Nat} {F : ev_H} {Q : Option Value → Nat → ev_H → Prop} {r0 : Nat} {j1 : Int64} {rc1 : Nat} {rs1 : Nat} {rc9 : Nat} {rs9 : Nat} {Q15 : Option Value → Nat → ev_H → Prop} {bc15 : Nat} {bs15 : Nat} {rc15 : Nat} {rs15 : Nat} (hb_rc1 : rc1 + 1 ≤ bc) (hs_rs1 : rs1 + 1 ≤ bs) (hb_rc9 : rc9 + 1 ≤ rc1) (hs_rs9 : rs9 + 2 ≤ rs1) (hb_rc15 : rc15 + bc15 ≤ rc9) (hs_rs15 : rs15 + bs15 ≤ rs9)
    (in6_0 : vp_in 0 1)
    (c15_1 : Cal l X M_Sp_init bc15 bs15 [.ref (n + 1), .int 3, .ref n] (n + 2) (ev_up (ev_up (ev_up F n (.inl (1, 1, .inr (.inl (fun _ => 0))))) n (.inl (1, 1, .inr (.inl (vp_updL (fun _ => 0) (0 : Int32).toNatClampNeg j1))))) (n + 1) (.inr (10, [.int 0, .null]))) Q15)
    (k18_2 : ∀ v2 n2 F2, Q15 v2 n2 F2 → Ev l X M_Qs_pushTerm rc15 rs15 18 [(0, .ref r0), (1, .long j1), (3, .ref n)] (v2.toList ++ [.ref (n + 1), .ref r0]) n2 F2 (ev_mq X Q)) :
    Ev l X M_Qs_pushTerm bc bs 0 [(0, .ref r0), (1, .long j1)] [] n F (ev_mq X Q) := by
  refine ev_iconst (pc := 0) 1 d_Qs_pushTerm_0 (by decide) ?_
  refine ev_fresh fun fr1 => ?_
  refine ev_newarray (pc := 1) 1 1 (1, .inr (.inl (fun _ => 0))) d_Qs_pushTerm_1 wd_85 rfl rfl (fun _ _ h => h) (fun _ => rfl) (by decide) (by decide) (by decide) (bc2 := rc1) (bs2 := rs1) hb_rc1 hs_rs1 (fun F1_ hF1_ => ?_)
  have g2_ : F1_ n = some (.inl (1, 1, .inr (.inl (fun _ => 0)))) := by rw [← hF1_]; exact ev_up_s
  refine ev_dup (pc := 3) d_Qs_pushTerm_3 rfl ?_
  refine ev_iconst (pc := 4) 0 d_Qs_pushTerm_4 (by decide) ?_
  refine ev_lload_n (pc := 5) d_Qs_pushTerm_5 rfl ?_
  refine ev_lastore (pc := 6) d_Qs_pushTerm_6 g2_ rfl in6_0 (fun F3_ hF3_ => ?_)
  have g4_ : F3_ n = some (.inl (1, 1, .inr (.inl (vp_updL (fun _ => 0) (0 : Int32).toNatClampNeg j1)))) := by rw [← hF3_]; exact ev_up_s
  refine ev_astore_n (pc := 7) d_Qs_pushTerm_7 (Nat.le_of_ble_eq_true rfl) [1, 2, 0] rfl ?_
  refine ev_aload_n (pc := 8) d_Qs_pushTerm_8 rfl ?_
  refine ev_fresh fun fr9 => ?_
  refine ev_new (pc := 9) 10 [.int 0, .null] d_Qs_pushTerm_9 ck_10 wd_698 wd_699 wd_26 (by decide +kernel) (bc2 := rc9) (bs2 := rs9) hb_rc9 hs_rs9 (fun F5_ hF5_ => ?_)
  have g6_ : F5_ n = some (.inl (1, 1, .inr (.inl (vp_updL (fun _ => 0) (0 : Int32).toNatClampNeg j1)))) := by rw [← hF5_]; exact ev_up_k (ev_nf g4_ (fr9 _ (Nat.le_refl _))) g4_
  have g7_ : F5_ (n + 1) = some (.inr (10, [.int 0, .null])) := by rw [← hF5_]; exact ev_up_s
  refine ev_dup (pc := 12) d_Qs_pushTerm_12 rfl ?_
  refine ev_iconst (pc := 13) 3 d_Qs_pushTerm_13 (by decide) ?_
  refine ev_aload_n (pc := 14) d_Qs_pushTerm_14 rfl ?_
  exact ev_init (pc := 15) (As := [.int 3, .ref n]) (st := [.ref (n + 1), .ref r0]) (Q2 := Q15) M_Sp_init d_Qs_pushTerm_15 lc_Qs_57 rfl rfl wd_701 rfl rfl (Nat.le_of_ble_eq_true rfl) (Nat.le_of_ble_eq_true rfl) (Nat.le_of_ble_eq_true rfl) hb_rc15 hs_rs15 (by subst hF1_ hF3_ hF5_; exact c15_1) k18_2

set_option maxRecDepth 100000 in
set_option maxHeartbeats 4000000 in
theorem s_Qs_pushTerm_18 {l : Launch} {X : ev_X} {bc bs n : Nat} {F : ev_H} {Q : Option Value → Nat → ev_H → Prop} {r0 : Nat} {j1 : Int64} {r3 : Nat} {rs0 : Nat} {rs1 : Nat} {irs0_height : Int32} {Q20 : Option Value → Nat → ev_H → Prop} {bc20 : Nat} {bs20 : Nat} {rc20 : Nat} {rs20 : Nat} (h_rs0 : F rs0 = some (.inr (5, [.ref (rs0 + 1), .ref (rs0 + 2), .int irs0_height]))) (hb_rc20 : rc20 + bc20 ≤ bc) (hs_rs20 : rs20 + bs20 ≤ bs)
    (c20_0 : Cal l X M_Qs_push bc20 bs20 [.ref rs0, .ref rs1, .int 0, .int 0] n F Q20)
    (k23_1 : ∀ v2 n2 F2, Q20 v2 n2 F2 → Ev l X M_Qs_pushTerm rc20 rs20 23 [(0, .ref r0), (1, .long j1), (3, .ref r3)] (v2.toList ++ []) n2 F2 (ev_mq X Q)) :
    Ev l X M_Qs_pushTerm bc bs 18 [(0, .ref r0), (1, .long j1), (3, .ref r3)] [.ref rs1, .ref rs0] n F (ev_mq X Q) := by
  refine ev_iconst (pc := 18) 0 d_Qs_pushTerm_18 (by decide) ?_
  refine ev_iconst (pc := 19) 0 d_Qs_pushTerm_19 (by decide) ?_
  exact ev_invokevirtual (pc := 20) (As := [.ref rs1, .int 0, .int 0]) (st := []) (Q2 := Q20) M_Qs_push rC5 d_Qs_pushTerm_20 lc_Qs_60 wd_715 wd_s23 rfl h_rs0 rfl rfl (Nat.le_of_ble_eq_true rfl) (Nat.le_of_ble_eq_true rfl) (Nat.le_of_ble_eq_true rfl) hb_rc20 hs_rs20 c20_0 k23_1

set_option maxRecDepth 100000 in
set_option maxHeartbeats 4000000 in
theorem s_Qs_pushTerm_23 {l : Launch} {X : ev_X} {bc bs n : Nat} {F : ev_H} {Q : Option Value → Nat → ev_H → Prop} {r0 : Nat} {j1 : Int64} {r3 : Nat} {is0 : Int32} 
    (q23_0 : Q (some (.int is0)) n F) :
    Ev l X M_Qs_pushTerm bc bs 23 [(0, .ref r0), (1, .long j1), (3, .ref r3)] [.int is0] n F (ev_mq X Q) := by
  exact ev_ireturn (pc := 23) d_Qs_pushTerm_23 rfl rfl q23_0
set_option maxRecDepth 100000 in
set_option maxHeartbeats 4000000 in
theorem s_Qs_push_0 {l : Launch} {X : ev_X} {bc bs n : Nat} {F : ev_H} {Q : Option Value → Nat → ev_H → Prop} {r0 : Nat} {r1 : Nat} {i2 : Int32} {i3 : Int32} {ir0_height : Int32} {r0p1_elementData : Nat} {ir0p1_size : Int32} {ir0p1_modCount : Int32} {Q27 : Option Value → Nat → ev_H → Prop} {bc27 : Nat} {bs27 : Nat} {rc27 : Nat} {rs27 : Nat} (h_r0 : F r0 = some (.inr (5, [.ref (r0 + 1), .ref (r0 + 2), .int ir0_height]))) (h_r0p1 : F (r0 + 1) = some (.inr (12, [.ref r0p1_elementData, .int ir0p1_size, .int ir0p1_modCount]))) (hb_rc27 : rc27 + bc27 ≤ bc) (hs_rs27 : rs27 + bs27 ≤ bs)
    (q21_0 : ((ir0_height - i2) < 0) → Q (some (.int (-1))) n F)
    (c27_1 : (¬ (ir0_height - i2) < 0) → ((ir0_height - i2) < 8) → Cal l X M_AL_add bc27 bs27 [.ref (r0 + 1), .ref r1] n F Q27)
    (k30_2 : (¬ (ir0_height - i2) < 0) → ((ir0_height - i2) < 8) → ∀ v2 n2 F2, Q27 v2 n2 F2 → Ev l X M_Qs_push rc27 rs27 30 [(0, .ref r0), (1, .ref r1), (2, .int i2), (3, .int i3), (4, .int (ir0_height - i2))] (v2.toList ++ []) n2 F2 (ev_mq X Q))
    (q21_3 : (¬ (ir0_height - i2) < 0) → (¬ (ir0_height - i2) < 8) → Q (some (.int (-1))) n F) :
    Ev l X M_Qs_push bc bs 0 [(0, .ref r0), (1, .ref r1), (2, .int i2), (3, .int i3)] [] n F (ev_mq X Q) := by
  refine ev_aload_n (pc := 0) d_Qs_push_0 rfl ?_
  refine ev_getfield (pc := 1) 2 d_Qs_push_1 fl_Qs_22 h_r0 rfl ?_
  refine ev_iload_n (pc := 4) d_Qs_push_4 rfl ?_
  refine ev_isub (pc := 5) d_Qs_push_5 ?_
  refine ev_istore (pc := 6) d_Qs_push_6 (Nat.le_of_ble_eq_true rfl) [1, 2, 3, 4, 0] rfl ?_
  refine ev_iload (pc := 8) d_Qs_push_8 rfl ?_
  refine ev_if_lt (pc := 10) 20 d_Qs_push_10 (by decide) (fun c10 => ?_) (fun c10 => ?_)
  · refine ev_iconst (pc := 20) (-1) d_Qs_push_20 (by decide) ?_
    exact ev_ireturn (pc := 21) d_Qs_push_21 rfl rfl (q21_0 c10)
  · refine ev_iload (pc := 13) d_Qs_push_13 rfl ?_
    refine ev_bipush (pc := 15) 8 d_Qs_push_15 (by decide) ?_
    refine ev_icmp_lt (pc := 17) 22 d_Qs_push_17 (by decide) (fun c17 => ?_) (fun c17 => ?_)
    · refine ev_aload_n (pc := 22) d_Qs_push_22 rfl ?_
      refine ev_getfield (pc := 23) 0 d_Qs_push_23 fl_Qs_12 h_r0 rfl ?_
      refine ev_aload_n (pc := 26) d_Qs_push_26 rfl ?_
      exact ev_invokevirtual (pc := 27) (As := [.ref r1]) (st := []) (Q2 := Q27) M_AL_add rC12 d_Qs_push_27 lc_Qs_71 wd_495 wd_496 rfl h_r0p1 rfl rfl (Nat.le_of_ble_eq_true rfl) (Nat.le_of_ble_eq_true rfl) (Nat.le_of_ble_eq_true rfl) hb_rc27 hs_rs27 (c27_1 c10 c17) (k30_2 c10 c17)
    · refine ev_iconst (pc := 20) (-1) d_Qs_push_20 (by decide) ?_
      exact ev_ireturn (pc := 21) d_Qs_push_21 rfl rfl (q21_3 c10 c17)

set_option maxRecDepth 100000 in
set_option maxHeartbeats 4000000 in
theorem s_Qs_push_30 {l : Launch} {X : ev_X} {bc bs n : Nat} {F : ev_H} {Q : Option Value → Nat → ev_H → Prop} {r0 : Nat} {r1 : Nat} {i2 : Int32} {i3 : Int32} {i4 : Int32} {is0 : Int32} {ir0_height : Int32} {r0p2_f : Nat → Int32} (h_r0 : F r0 = some (.inr (5, [.ref (r0 + 1), .ref (r0 + 2), .int ir0_height]))) (h_r0p2 : F (r0 + 2) = some (.inl (0, 8, .inl r0p2_f)))
    (in38_0 : vp_in i4 8)
    (q51_1 : Q (some (.int (i4 + 1))) n (ev_up (ev_up F (r0 + 2) (.inl (0, 8, .inl (upd r0p2_f i4.toNatClampNeg i3)))) r0 (.inr (5, [.ref (r0 + 1), .ref (r0 + 2), .int (i4 + 1)])))) :
    Ev l X M_Qs_push bc bs 30 [(0, .ref r0), (1, .ref r1), (2, .int i2), (3, .int i3), (4, .int i4)] [.int is0] n F (ev_mq X Q) := by
  refine ev_pop (pc := 30) d_Qs_push_30 rfl ?_
  refine ev_aload_n (pc := 31) d_Qs_push_31 rfl ?_
  refine ev_getfield (pc := 32) 1 d_Qs_push_32 fl_Qs_18 h_r0 rfl ?_
  refine ev_iload (pc := 35) d_Qs_push_35 rfl ?_
  refine ev_iload_n (pc := 37) d_Qs_push_37 rfl ?_
  refine ev_iastore (pc := 38) d_Qs_push_38 h_r0p2 rfl in38_0 (fun F1_ hF1_ => ?_)
  have g2_ : F1_ r0 = some (.inr (5, [.ref (r0 + 1), .ref (r0 + 2), .int ir0_height])) := by rw [← hF1_]; exact ev_up_k (ev_ne_oa h_r0 h_r0p2) h_r0
  have g3_ : F1_ (r0 + 2) = some (.inl (0, 8, .inl (upd r0p2_f i4.toNatClampNeg i3))) := by rw [← hF1_]; exact ev_up_s
  refine ev_aload_n (pc := 39) d_Qs_push_39 rfl ?_
  refine ev_iload (pc := 40) d_Qs_push_40 rfl ?_
  refine ev_iconst (pc := 42) 1 d_Qs_push_42 (by decide) ?_
  refine ev_iadd (pc := 43) d_Qs_push_43 ?_
  refine ev_putfield (pc := 44) 2 _ d_Qs_push_44 fl_Qs_22 g2_ pf_5_height rfl rfl (Nat.le_of_ble_eq_true rfl) (fun F4_ hF4_ => ?_)
  have g5_ : F4_ (r0 + 2) = some (.inl (0, 8, .inl (upd r0p2_f i4.toNatClampNeg i3))) := by rw [← hF4_]; exact ev_up_k (ev_ne_ao g3_ g2_) g3_
  have g6_ : F4_ r0 = some (.inr (5, [.ref (r0 + 1), .ref (r0 + 2), .int (i4 + 1)])) := by rw [← hF4_]; exact ev_up_s
  refine ev_aload_n (pc := 47) d_Qs_push_47 rfl ?_
  refine ev_getfield (pc := 48) 2 d_Qs_push_48 fl_Qs_22 g6_ rfl ?_
  exact ev_ireturn (pc := 51) d_Qs_push_51 rfl rfl (by subst hF1_ hF4_; exact q51_1)
set_option maxRecDepth 100000 in
set_option maxHeartbeats 4000000 in
theorem s_Qs_areTerms_0 {l : Launch} {X : ev_X} {bc bs n : Nat} {F : ev_H} {Q : Option Value → Nat → ev_H → Prop} {r0 : Nat} {i1 : Int32} {ir0_height : Int32} {v2 : Int32} (h_r0 : F r0 = some (.inr (5, [.ref (r0 + 1), .ref (r0 + 2), .int ir0_height])))
    (c2_0 : Cal l X M_Qs_deepest 0 0 [.ref r0, .int i1] n F (ev_pure (.int v2) n F))
    (q13_1 : (¬ v2 = 0) → Q (some (.int 0)) n F)
    (q13_2 : (v2 = 0) → Q (some (.int 1)) n F) :
    Ev l X M_Qs_areTerms bc bs 0 [(0, .ref r0), (1, .int i1)] [] n F (ev_mq X Q) := by
  refine ev_aload_n (pc := 0) d_Qs_areTerms_0 rfl ?_
  refine ev_iload_n (pc := 1) d_Qs_areTerms_1 rfl ?_
  refine ev_invokevirtual (pc := 2) (As := [.int i1]) (st := []) (Q2 := ev_pure (.int v2) n F) (bc1 := 0) (bs1 := 0) M_Qs_deepest rC5 d_Qs_areTerms_2 lc_Qs_29 wd_727 wd_728 rfl h_r0 rfl rfl (Nat.le_of_ble_eq_true rfl) (Nat.le_of_ble_eq_true rfl) (Nat.le_of_ble_eq_true rfl) (Nat.le_refl _) (Nat.le_refl _) c2_0 ?_
  refine ev_purek ?_
  refine ev_if_ne (pc := 5) 12 d_Qs_areTerms_5 (by decide) (fun c5 => ?_) (fun c5 => ?_)
  · refine ev_iconst (pc := 12) 0 d_Qs_areTerms_12 (by decide) ?_
    exact ev_ireturn (pc := 13) d_Qs_areTerms_13 rfl rfl (q13_1 c5)
  · refine ev_iconst (pc := 8) 1 d_Qs_areTerms_8 (by decide) ?_
    refine ev_goto (pc := 9) 13 d_Qs_areTerms_9 (by decide) ?_
    exact ev_ireturn (pc := 13) d_Qs_areTerms_13 rfl rfl (q13_2 c5)
set_option maxRecDepth 100000 in
set_option maxHeartbeats 4000000 in
theorem s_Qs_deepest_0 {l : Launch} {X : ev_X} {bc bs n : Nat} {F : ev_H} {Q : Option Value → Nat → ev_H → Prop} {r0 : Nat} {i1 : Int32} {ir0_height : Int32} (h_r0 : F r0 = some (.inr (5, [.ref (r0 + 1), .ref (r0 + 2), .int ir0_height])))
    (k13_0 : Ev l X M_Qs_deepest bc bs 13 [(0, .ref r0), (1, .int i1), (2, .int 0), (3, .int (if 0 < (ir0_height - i1) then ir0_height - i1 else 0))] [] n F (ev_mq X Q)) :
    Ev l X M_Qs_deepest bc bs 0 [(0, .ref r0), (1, .int i1)] [] n F (ev_mq X Q) := by
  refine ev_iconst (pc := 0) 0 d_Qs_deepest_0 (by decide) ?_
  refine ev_istore_n (pc := 1) d_Qs_deepest_1 (Nat.le_of_ble_eq_true rfl) [1, 2, 0] rfl ?_
  refine ev_iconst (pc := 2) 0 d_Qs_deepest_2 (by decide) ?_
  refine ev_aload_n (pc := 3) d_Qs_deepest_3 rfl ?_
  refine ev_getfield (pc := 4) 2 d_Qs_deepest_4 fl_Qs_22 h_r0 rfl ?_
  refine ev_iload_n (pc := 7) d_Qs_deepest_7 rfl ?_
  refine ev_isub (pc := 8) d_Qs_deepest_8 ?_
  refine ev_mmax (pc := 9) d_Qs_deepest_9 wd_730 wd_275 wd_15 wd_276 (Nat.le_of_ble_eq_true rfl) (Nat.le_of_ble_eq_true rfl) ?_
  refine ev_istore_n (pc := 12) d_Qs_deepest_12 (Nat.le_of_ble_eq_true rfl) [1, 2, 3, 0] rfl ?_
  exact k13_0

set_option maxRecDepth 100000 in
set_option maxHeartbeats 4000000 in
theorem s_Qs_deepest_13 {l : Launch} {X : ev_X} {bc bs n : Nat} {F : ev_H} {Q : Option Value → Nat → ev_H → Prop} {r0 : Nat} {i1 : Int32} {i2 : Int32} {i3 : Int32} {ir0_height : Int32} {r0p2_f : Nat → Int32} (h_r0 : F r0 = some (.inr (5, [.ref (r0 + 1), .ref (r0 + 2), .int ir0_height]))) (h_r0p2 : F (r0 + 2) = some (.inl (0, 8, .inl r0p2_f)))
    (q39_0 : (ir0_height ≤ i3) → Q (some (.int i2)) n F)
    (in27_1 : (¬ ir0_height ≤ i3) → vp_in i3 8)
    (k13_2 : (¬ ir0_height ≤ i3) → Ev l X M_Qs_deepest bc bs 13 [(0, .ref r0), (1, .int i1), (2, .int (if i2 < (r0p2_f i3.toNatClampNeg) then r0p2_f i3.toNatClampNeg else i2)), (3, .int (i3 + 1))] [] n F (ev_mq X Q)) :
    Ev l X M_Qs_deepest bc bs 13 [(0, .ref r0), (1, .int i1), (2, .int i2), (3, .int i3)] [] n F (ev_mq X Q) := by
  refine ev_iload_n (pc := 13) d_Qs_deepest_13 rfl ?_
  refine ev_aload_n (pc := 14) d_Qs_deepest_14 rfl ?_
  refine ev_getfield (pc := 15) 2 d_Qs_deepest_15 fl_Qs_22 h_r0 rfl ?_
  refine ev_icmp_ge (pc := 18) 38 d_Qs_deepest_18 (by decide) (fun c18 => ?_) (fun c18 => ?_)
  · refine ev_iload_n (pc := 38) d_Qs_deepest_38 rfl ?_
    exact ev_ireturn (pc := 39) d_Qs_deepest_39 rfl rfl (q39_0 c18)
  · refine ev_iload_n (pc := 21) d_Qs_deepest_21 rfl ?_
    refine ev_aload_n (pc := 22) d_Qs_deepest_22 rfl ?_
    refine ev_getfield (pc := 23) 1 d_Qs_deepest_23 fl_Qs_18 h_r0 rfl ?_
    refine ev_iload_n (pc := 26) d_Qs_deepest_26 rfl ?_
    refine ev_iaload (pc := 27) d_Qs_deepest_27 h_r0p2 rfl (in27_1 c18) ?_
    refine ev_mmax (pc := 28) d_Qs_deepest_28 wd_730 wd_275 wd_15 wd_276 (Nat.le_of_ble_eq_true rfl) (Nat.le_of_ble_eq_true rfl) ?_
    refine ev_istore_n (pc := 31) d_Qs_deepest_31 (Nat.le_of_ble_eq_true rfl) [1, 2, 0, 3] rfl ?_
    refine ev_iinc (pc := 32) 3 1 d_Qs_deepest_32 rfl (by decide) (Nat.le_of_ble_eq_true rfl) [1, 2, 3, 0] rfl ?_
    refine ev_goto (pc := 35) 13 d_Qs_deepest_35 (by decide) ?_
    exact (k13_2 c18)
set_option maxRecDepth 100000 in
set_option maxHeartbeats 4000000 in
theorem s_Qs_makePhrase_0 {l : Launch} {X : ev_X} {bc bs n : Nat} {F : ev_H} {Q : Option Value → Nat → ev_H → Prop} {r0 : Nat} {i1 : Int32} {rc1 : Nat} {rs1 : Nat} {N1 : Nat} (hb_rc1 : rc1 + 1 ≤ bc) (hs_rs1 : rs1 + N1 ≤ bs)
    (nn1_0 : ¬ i1 < 0)
    (nN1_1 : i1.toNatClampNeg = N1)
    (nB1_2 : N1 * componentBytes .long ≤ 536870912)
    (k8_3 : Ev l X M_Qs_makePhrase rc1 rs1 8 [(0, .ref r0), (1, .int i1), (2, .ref n), (3, .int (i1 - 1))] [] (n + 1) (ev_up F n (.inl (1, N1, .inr (.inl (fun _ => 0))))) (ev_mq X Q)) :
    Ev l X M_Qs_makePhrase bc bs 0 [(0, .ref r0), (1, .int i1)] [] n F (ev_mq X Q) := by
  refine ev_iload_n (pc := 0) d_Qs_makePhrase_0 rfl ?_
  refine ev_fresh fun fr1 => ?_
  refine ev_newarray (pc := 1) 1 N1 (N1, .inr (.inl (fun _ => 0))) d_Qs_makePhrase_1 wd_85 rfl rfl (fun _ _ h => h) (fun _ => rfl) nn1_0 nN1_1 nB1_2 (bc2 := rc1) (bs2 := rs1) hb_rc1 hs_rs1 (fun F1_ hF1_ => ?_)
  have g2_ : F1_ n = some (.inl (1, N1, .inr (.inl (fun _ => 0)))) := by rw [← hF1_]; exact ev_up_s
  refine ev_astore_n (pc := 3) d_Qs_makePhrase_3 (Nat.le_of_ble_eq_true rfl) [1, 2, 0] rfl ?_
  refine ev_iload_n (pc := 4) d_Qs_makePhrase_4 rfl ?_
  refine ev_iconst (pc := 5) 1 d_Qs_makePhrase_5 (by decide) ?_
  refine ev_isub (pc := 6) d_Qs_makePhrase_6 ?_
  refine ev_istore_n (pc := 7) d_Qs_makePhrase_7 (Nat.le_of_ble_eq_true rfl) [1, 2, 3, 0] rfl ?_
  exact (by subst hF1_; exact k8_3)

set_option maxRecDepth 100000 in
set_option maxHeartbeats 4000000 in
theorem s_Qs_makePhrase_8 {l : Launch} {X : ev_X} {bc bs n : Nat} {F : ev_H} {Q : Option Value → Nat → ev_H → Prop} {r0 : Nat} {i1 : Int32} {r2 : Nat} {i3 : Int32} {rc55 : Nat} {rs55 : Nat} {Q61 : Option Value → Nat → ev_H → Prop} {bc61 : Nat} {bs61 : Nat} {rc61 : Nat} {rs61 : Nat} {ir0_height : Int32} {r0p1_elementData : Nat} {ir0p1_size : Int32} {ir0p1_modCount : Int32} {v16 : Int32} {rc55_2 : Nat} {rs55_2 : Nat} {Q61_2 : Option Value → Nat → ev_H → Prop} {bc61_2 : Nat} {bs61_2 : Nat} {rc61_2 : Nat} {rs61_2 : Nat} {v33 : Int32} {Q38 : Option Value → Nat → ev_H → Prop} {bc38 : Nat} {bs38 : Nat} {rc38 : Nat} {rs38 : Nat} (hb_rc55 : rc55 + 1 ≤ bc) (hs_rs55 : rs55 + 2 ≤ bs) (hb_rc61 : rc61 + bc61 ≤ rc55) (hs_rs61 : rs61 + bs61 ≤ rs55) (h_r0 : F r0 = some (.inr (5, [.ref (r0 + 1), .ref (r0 + 2), .int ir0_height]))) (h_r0p1 : F (r0 + 1) = some (.inr (12, [.ref r0p1_elementData, .int ir0p1_size, .int ir0p1_modCount]))) (hb_rc55_2 : rc55_2 + 1 ≤ bc) (hs_rs55_2 : rs55_2 + 2 ≤ bs) (hb_rc61_2 : rc61_2 + bc61_2 ≤ rc55_2) (hs_rs61_2 : rs61_2 + bs61_2 ≤ rs55_2) (hb_rc38 : rc38 + bc38 ≤ bc) (hs_rs38 : rs38 + bs38 ≤ bs)
    (c61_0 : (i3 < 0) → Cal l X M_Sp_init bc61 bs61 [.ref n, .int 3, .ref r2] (n + 1) (ev_up F n (.inr (10, [.int 0, .null]))) Q61)
    (k64_1 : (i3 < 0) → ∀ v2 n2 F2, Q61 v2 n2 F2 → Ev l X M_Qs_makePhrase rc61 rs61 64 [(0, .ref r0), (1, .int i1), (2, .ref r2), (3, .int i3)] (v2.toList ++ [.ref n, .ref r0]) n2 F2 (ev_mq X Q))
    (c16_2 : (¬ i3 < 0) → Cal l X M_AL_isEmpty 0 0 [.ref (r0 + 1)] n F (ev_pure (.int v16) n F))
    (c61_3 : (¬ i3 < 0) → (¬ v16 = 0) → Cal l X M_Sp_init bc61_2 bs61_2 [.ref n, .int 3, .ref r2] (n + 1) (ev_up F n (.inr (10, [.int 0, .null]))) Q61_2)
    (k64_4 : (¬ i3 < 0) → (¬ v16 = 0) → ∀ v2 n2 F2, Q61_2 v2 n2 F2 → Ev l X M_Qs_makePhrase rc61_2 rs61_2 64 [(0, .ref r0), (1, .int i1), (2, .ref r2), (3, .int i3)] (v2.toList ++ [.ref n, .ref r0]) n2 F2 (ev_mq X Q))
    (c33_5 : (¬ i3 < 0) → (v16 = 0) → Cal l X M_AL_size 0 0 [.ref (r0 + 1)] n F (ev_pure (.int v33) n F))
    (c38_6 : (¬ i3 < 0) → (v16 = 0) → Cal l X M_AL_remove bc38 bs38 [.ref (r0 + 1), .int (v33 - 1)] n F Q38)
    (k41_7 : (¬ i3 < 0) → (v16 = 0) → ∀ v2 n2 F2, Q38 v2 n2 F2 → Ev l X M_Qs_makePhrase rc38 rs38 41 [(0, .ref r0), (1, .int i1), (2, .ref r2), (3, .int i3)] (v2.toList ++ [.ref r0, .int i3, .ref r2]) n2 F2 (ev_mq X Q)) :
    Ev l X M_Qs_makePhrase bc bs 8 [(0, .ref r0), (1, .int i1), (2, .ref r2), (3, .int i3)] [] n F (ev_mq X Q) := by
  refine ev_iload_n (pc := 8) d_Qs_makePhrase_8 rfl ?_
  refine ev_if_lt (pc := 9) 54 d_Qs_makePhrase_9 (by decide) (fun c9 => ?_) (fun c9 => ?_)
  · refine ev_aload_n (pc := 54) d_Qs_makePhrase_54 rfl ?_
    refine ev_fresh fun fr55 => ?_
    refine ev_new (pc := 55) 10 [.int 0, .null] d_Qs_makePhrase_55 ck_10 wd_698 wd_699 wd_26 (by decide +kernel) (bc2 := rc55) (bs2 := rs55) hb_rc55 hs_rs55 (fun F1_ hF1_ => ?_)
    have g2_ : F1_ n = some (.inr (10, [.int 0, .null])) := by rw [← hF1_]; exact ev_up_s
    refine ev_dup (pc := 58) d_Qs_makePhrase_58 rfl ?_
    refine ev_iconst (pc := 59) 3 d_Qs_makePhrase_59 (by decide) ?_
    refine ev_aload_n (pc := 60) d_Qs_makePhrase_60 rfl ?_
    exact ev_init (pc := 61) (As := [.int 3, .ref r2]) (st := [.ref n, .ref r0]) (Q2 := Q61) M_Sp_init d_Qs_makePhrase_61 lc_Qs_57 rfl rfl wd_701 rfl rfl (Nat.le_of_ble_eq_true rfl) (Nat.le_of_ble_eq_true rfl) (Nat.le_of_ble_eq_true rfl) hb_rc61 hs_rs61 (by subst hF1_; exact (c61_0 c9)) (k64_1 c9)
  · refine ev_aload_n (pc := 12) d_Qs_makePhrase_12 rfl ?_
    refine ev_getfield (pc := 13) 0 d_Qs_makePhrase_13 fl_Qs_12 h_r0 rfl ?_
    refine ev_invokevirtual (pc := 16) (As := []) (st := []) (Q2 := ev_pure (.int v16) n F) (bc1 := 0) (bs1 := 0) M_AL_isEmpty rC12 d_Qs_makePhrase_16 lc_Qs_64 wd_569 wd_570 rfl h_r0p1 rfl rfl (Nat.le_of_ble_eq_true rfl) (Nat.le_of_ble_eq_true rfl) (Nat.le_of_ble_eq_true rfl) (Nat.le_refl _) (Nat.le_refl _) (c16_2 c9) ?_
    refine ev_purek ?_
    refine ev_if_ne (pc := 19) 54 d_Qs_makePhrase_19 (by decide) (fun c19 => ?_) (fun c19 => ?_)
    · refine ev_aload_n (pc := 54) d_Qs_makePhrase_54 rfl ?_
      refine ev_fresh fun fr55 => ?_
      refine ev_new (pc := 55) 10 [.int 0, .null] d_Qs_makePhrase_55 ck_10 wd_698 wd_699 wd_26 (by decide +kernel) (bc2 := rc55_2) (bs2 := rs55_2) hb_rc55_2 hs_rs55_2 (fun F3_ hF3_ => ?_)
      have g4_ : F3_ r0 = some (.inr (5, [.ref (r0 + 1), .ref (r0 + 2), .int ir0_height])) := by rw [← hF3_]; exact ev_up_k (ev_nf h_r0 (fr55 _ (Nat.le_refl _))) h_r0
      have g5_ : F3_ (r0 + 1) = some (.inr (12, [.ref r0p1_elementData, .int ir0p1_size, .int ir0p1_modCount])) := by rw [← hF3_]; exact ev_up_k (ev_nf h_r0p1 (fr55 _ (Nat.le_refl _))) h_r0p1
      have g6_ : F3_ n = some (.inr (10, [.int 0, .null])) := by rw [← hF3_]; exact ev_up_s
      refine ev_dup (pc := 58) d_Qs_makePhrase_58 rfl ?_
      refine ev_iconst (pc := 59) 3 d_Qs_makePhrase_59 (by decide) ?_
      refine ev_aload_n (pc := 60) d_Qs_makePhrase_60 rfl ?_
      exact ev_init (pc := 61) (As := [.int 3, .ref r2]) (st := [.ref n, .ref r0]) (Q2 := Q61_2) M_Sp_init d_Qs_makePhrase_61 lc_Qs_57 rfl rfl wd_701 rfl rfl (Nat.le_of_ble_eq_true rfl) (Nat.le_of_ble_eq_true rfl) (Nat.le_of_ble_eq_true rfl) hb_rc61_2 hs_rs61_2 (by subst hF3_; exact (c61_3 c9 c19)) (k64_4 c9 c19)
    · refine ev_aload_n (pc := 22) d_Qs_makePhrase_22 rfl ?_
      refine ev_iload_n (pc := 23) d_Qs_makePhrase_23 rfl ?_
      refine ev_aload_n (pc := 24) d_Qs_makePhrase_24 rfl ?_
      refine ev_aload_n (pc := 25) d_Qs_makePhrase_25 rfl ?_
      refine ev_getfield (pc := 26) 0 d_Qs_makePhrase_26 fl_Qs_12 h_r0 rfl ?_
      refine ev_aload_n (pc := 29) d_Qs_makePhrase_29 rfl ?_
      refine ev_getfield (pc := 30) 0 d_Qs_makePhrase_30 fl_Qs_12 h_r0 rfl ?_
      refine ev_invokevirtual (pc := 33) (As := []) (st := [.ref (r0 + 1), .ref r0, .int i3, .ref r2]) (Q2 := ev_pure (.int v33) n F) (bc1 := 0) (bs1 := 0) M_AL_size rC12 d_Qs_makePhrase_33 lc_Qs_39 wd_469 wd_470 rfl h_r0p1 rfl rfl (Nat.le_of_ble_eq_true rfl) (Nat.le_of_ble_eq_true rfl) (Nat.le_of_ble_eq_true rfl) (Nat.le_refl _) (Nat.le_refl _) (c33_5 c9 c19) ?_
      refine ev_purek ?_
      refine ev_iconst (pc := 36) 1 d_Qs_makePhrase_36 (by decide) ?_
      refine ev_isub (pc := 37) d_Qs_makePhrase_37 ?_
      exact ev_invokevirtual (pc := 38) (As := [.int (v33 - 1)]) (st := [.ref r0, .int i3, .ref r2]) (Q2 := Q38) M_AL_remove rC12 d_Qs_makePhrase_38 lc_Qs_68 wd_486 wd_487 rfl h_r0p1 rfl rfl (Nat.le_of_ble_eq_true rfl) (Nat.le_of_ble_eq_true rfl) (Nat.le_of_ble_eq_true rfl) hb_rc38 hs_rs38 (c38_6 c9 c19) (k41_7 c9 c19)

set_option maxRecDepth 100000 in
set_option maxHeartbeats 4000000 in
theorem s_Qs_makePhrase_41 {l : Launch} {X : ev_X} {bc bs n : Nat} {F : ev_H} {Q : Option Value → Nat → ev_H → Prop} {r0 : Nat} {i1 : Int32} {r2 : Nat} {i3 : Int32} {rs0 : Nat} {is1 : Int32} {rs2 : Nat} {rs3 : Nat} {irs3_kind : Int32} {rs3_terms : Nat} {irs2_height : Int32} {v44 : Int64} {rs0_n : Nat} {rs0_f : Nat → Int64} (h_rs3 : F rs3 = some (.inr (10, [.int irs3_kind, .ref rs3_terms]))) (h_rs2 : F rs2 = some (.inr (5, [.ref (rs2 + 1), .ref (rs2 + 2), .int irs2_height]))) (h_rs0 : F rs0 = some (.inl (1, rs0_n, .inr (.inl rs0_f))))
    (c44_0 : Cal l X M_Qs_firstTerm 0 0 [.ref rs2, .ref rs3] n F (ev_pure (.long v44) n F))
    (in47_1 : vp_in is1 rs0_n)
    (k8_2 : Ev l X M_Qs_makePhrase bc bs 8 [(0, .ref r0), (1, .int i1), (2, .ref r2), (3, .int (i3 + (-1)))] [] n (ev_up F rs0 (.inl (1, rs0_n, .inr (.inl (vp_updL rs0_f is1.toNatClampNeg v44))))) (ev_mq X Q)) :
    Ev l X M_Qs_makePhrase bc bs 41 [(0, .ref r0), (1, .int i1), (2, .ref r2), (3, .int i3)] [.ref rs3, .ref rs2, .int is1, .ref rs0] n F (ev_mq X Q) := by
  refine ev_checkcast (pc := 41) rC10 d_Qs_makePhrase_41 wd_698 wd_1205 rfl h_rs3 ?_
  refine ev_invokevirtual (pc := 44) (As := [.ref rs3]) (st := [.int is1, .ref rs0]) (Q2 := ev_pure (.long v44) n F) (bc1 := 0) (bs1 := 0) M_Qs_firstTerm rC5 d_Qs_makePhrase_44 lc_Qs_49 wd_740 wd_s24 rfl h_rs2 rfl rfl (Nat.le_of_ble_eq_true rfl) (Nat.le_of_ble_eq_true rfl) (Nat.le_of_ble_eq_true rfl) (Nat.le_refl _) (Nat.le_refl _) c44_0 ?_
  refine ev_purek ?_
  refine ev_lastore (pc := 47) d_Qs_makePhrase_47 h_rs0 rfl in47_1 (fun F1_ hF1_ => ?_)
  have g2_ : F1_ rs3 = some (.inr (10, [.int irs3_kind, .ref rs3_terms])) := by rw [← hF1_]; exact ev_up_k (ev_ne_oa h_rs3 h_rs0) h_rs3
  have g3_ : F1_ rs2 = some (.inr (5, [.ref (rs2 + 1), .ref (rs2 + 2), .int irs2_height])) := by rw [← hF1_]; exact ev_up_k (ev_ne_oa h_rs2 h_rs0) h_rs2
  have g4_ : F1_ rs0 = some (.inl (1, rs0_n, .inr (.inl (vp_updL rs0_f is1.toNatClampNeg v44)))) := by rw [← hF1_]; exact ev_up_s
  refine ev_iinc (pc := 48) 3 (-1) d_Qs_makePhrase_48 rfl (by decide) (Nat.le_of_ble_eq_true rfl) [1, 2, 3, 0] rfl ?_
  refine ev_goto (pc := 51) 8 d_Qs_makePhrase_51 (by decide) ?_
  exact (by subst hF1_; exact k8_2)

set_option maxRecDepth 100000 in
set_option maxHeartbeats 4000000 in
theorem s_Qs_makePhrase_64 {l : Launch} {X : ev_X} {bc bs n : Nat} {F : ev_H} {Q : Option Value → Nat → ev_H → Prop} {r0 : Nat} {i1 : Int32} {r2 : Nat} {i3 : Int32} {rs0 : Nat} {rs1 : Nat} {irs0_height : Int32} {Q66 : Option Value → Nat → ev_H → Prop} {bc66 : Nat} {bs66 : Nat} {rc66 : Nat} {rs66 : Nat} (h_rs0 : F rs0 = some (.inr (5, [.ref (rs0 + 1), .ref (rs0 + 2), .int irs0_height]))) (hb_rc66 : rc66 + bc66 ≤ bc) (hs_rs66 : rs66 + bs66 ≤ bs)
    (c66_0 : Cal l X M_Qs_push bc66 bs66 [.ref rs0, .ref rs1, .int i1, .int 1] n F Q66)
    (k69_1 : ∀ v2 n2 F2, Q66 v2 n2 F2 → Ev l X M_Qs_makePhrase rc66 rs66 69 [(0, .ref r0), (1, .int i1), (2, .ref r2), (3, .int i3)] (v2.toList ++ []) n2 F2 (ev_mq X Q)) :
    Ev l X M_Qs_makePhrase bc bs 64 [(0, .ref r0), (1, .int i1), (2, .ref r2), (3, .int i3)] [.ref rs1, .ref rs0] n F (ev_mq X Q) := by
  refine ev_iload_n (pc := 64) d_Qs_makePhrase_64 rfl ?_
  refine ev_iconst (pc := 65) 1 d_Qs_makePhrase_65 (by decide) ?_
  exact ev_invokevirtual (pc := 66) (As := [.ref rs1, .int i1, .int 1]) (st := []) (Q2 := Q66) M_Qs_push rC5 d_Qs_makePhrase_66 lc_Qs_60 wd_715 wd_s23 rfl h_rs0 rfl rfl (Nat.le_of_ble_eq_true rfl) (Nat.le_of_ble_eq_true rfl) (Nat.le_of_ble_eq_true rfl) hb_rc66 hs_rs66 c66_0 k69_1

set_option maxRecDepth 100000 in
set_option maxHeartbeats 4000000 in
theorem s_Qs_makePhrase_69 {l : Launch} {X : ev_X} {bc bs n : Nat} {F : ev_H} {Q : Option Value → Nat → ev_H → Prop} {r0 : Nat} {i1 : Int32} {r2 : Nat} {i3 : Int32} {is0 : Int32} 
    (q69_0 : Q (some (.int is0)) n F) :
    Ev l X M_Qs_makePhrase bc bs 69 [(0, .ref r0), (1, .int i1), (2, .ref r2), (3, .int i3)] [.int is0] n F (ev_mq X Q) := by
  exact ev_ireturn (pc := 69) d_Qs_makePhrase_69 rfl rfl q69_0
set_option maxRecDepth 100000 in
set_option maxHeartbeats 4000000 in
theorem s_Qs_firstTerm_0 {l : Launch} {X : ev_X} {bc bs n : Nat} {F : ev_H} {Q : Option Value → Nat → ev_H → Prop} {r0 : Nat} {r1 : Nat} {ir1_kind : Int32} {r1_terms : Nat} {r1_terms_n : Nat} {r1_terms_f : Nat → Int64} (h_r1 : F r1 = some (.inr (10, [.int ir1_kind, .ref r1_terms]))) (h_r1_terms : F r1_terms = some (.inl (1, r1_terms_n, .inr (.inl r1_terms_f))))
    (q18_0 : ((nI r1_terms_n) ≤ 0) → Q (some (.long 0)) n F)
    (in13_1 : (¬ (nI r1_terms_n) ≤ 0) → vp_in 0 r1_terms_n)
    (q18_2 : (¬ (nI r1_terms_n) ≤ 0) → Q (some (.long (r1_terms_f (0 : Int32).toNatClampNeg))) n F) :
    Ev l X M_Qs_firstTerm bc bs 0 [(0, .ref r0), (1, .ref r1)] [] n F (ev_mq X Q) := by
  refine ev_aload_n (pc := 0) d_Qs_firstTerm_0 rfl ?_
  refine ev_getfield (pc := 1) 1 d_Qs_firstTerm_1 fl_Qs_53 h_r1 rfl ?_
  refine ev_alen (pc := 4) d_Qs_firstTerm_4 h_r1_terms rfl ?_
  refine ev_if_le (pc := 5) 17 d_Qs_firstTerm_5 (by decide) (fun c5 => ?_) (fun c5 => ?_)
  · refine ev_lconst (pc := 17) 0 d_Qs_firstTerm_17 (by decide) ?_
    exact ev_lreturn (pc := 18) d_Qs_firstTerm_18 rfl (q18_0 c5)
  · refine ev_aload_n (pc := 8) d_Qs_firstTerm_8 rfl ?_
    refine ev_getfield (pc := 9) 1 d_Qs_firstTerm_9 fl_Qs_53 h_r1 rfl ?_
    refine ev_iconst (pc := 12) 0 d_Qs_firstTerm_12 (by decide) ?_
    refine ev_laload (pc := 13) d_Qs_firstTerm_13 h_r1_terms rfl (in13_1 c5) ?_
    refine ev_goto (pc := 14) 18 d_Qs_firstTerm_14 (by decide) ?_
    exact ev_lreturn (pc := 18) d_Qs_firstTerm_18 rfl (q18_2 c5)
set_option maxRecDepth 100000 in
set_option maxHeartbeats 4000000 in
theorem s_Qs_makeJoin_0 {l : Launch} {X : ev_X} {bc bs n : Nat} {F : ev_H} {Q : Option Value → Nat → ev_H → Prop} {r0 : Nat} {i1 : Int32} {i2 : Int32} {rc1 : Nat} {rs1 : Nat} {rc7 : Nat} {rs7 : Nat} {Q9 : Option Value → Nat → ev_H → Prop} {bc9 : Nat} {bs9 : Nat} {rc9 : Nat} {rs9 : Nat} (hb_rc1 : rc1 + 1 ≤ bc) (hs_rs1 : rs1 + 2 ≤ bs) (hb_rc7 : rc7 + 1 ≤ rc1) (hs_rs7 : rs7 + 0 ≤ rs1) (hb_rc9 : rc9 + bc9 ≤ rc7) (hs_rs9 : rs9 + bs9 ≤ rs7)
    (c9_0 : Cal l X M_Sp_init bc9 bs9 [.ref n, .int i1, .ref (n + 1)] (n + 2) (ev_up (ev_up F n (.inr (10, [.int 0, .null]))) (n + 1) (.inl (1, 0, .inr (.inl (fun _ => 0))))) Q9)
    (k12_1 : ∀ v2 n2 F2, Q9 v2 n2 F2 → Ev l X M_Qs_makeJoin rc9 rs9 12 [(0, .ref r0), (1, .int i1), (2, .int i2)] (v2.toList ++ [.ref n, .ref r0]) n2 F2 (ev_mq X Q)) :
    Ev l X M_Qs_makeJoin bc bs 0 [(0, .ref r0), (1, .int i1), (2, .int i2)] [] n F (ev_mq X Q) := by
  refine ev_aload_n (pc := 0) d_Qs_makeJoin_0 rfl ?_
  refine ev_fresh fun fr1 => ?_
  refine ev_new (pc := 1) 10 [.int 0, .null] d_Qs_makeJoin_1 ck_10 wd_698 wd_699 wd_26 (by decide +kernel) (bc2 := rc1) (bs2 := rs1) hb_rc1 hs_rs1 (fun F1_ hF1_ => ?_)
  have g2_ : F1_ n = some (.inr (10, [.int 0, .null])) := by rw [← hF1_]; exact ev_up_s
  refine ev_dup (pc := 4) d_Qs_makeJoin_4 rfl ?_
  refine ev_iload_n (pc := 5) d_Qs_makeJoin_5 rfl ?_
  refine ev_iconst (pc := 6) 0 d_Qs_makeJoin_6 (by decide) ?_
  refine ev_fresh fun fr7 => ?_
  refine ev_newarray (pc := 7) 1 0 (0, .inr (.inl (fun _ => 0))) d_Qs_makeJoin_7 wd_85 rfl rfl (fun _ _ h => h) (fun _ => rfl) (by decide) (by decide) (by decide) (bc2 := rc7) (bs2 := rs7) hb_rc7 hs_rs7 (fun F3_ hF3_ => ?_)
  have g4_ : F3_ n = some (.inr (10, [.int 0, .null])) := by rw [← hF3_]; exact ev_up_k (ev_nf g2_ (fr7 _ (Nat.le_refl _))) g2_
  have g5_ : F3_ (n + 1) = some (.inl (1, 0, .inr (.inl (fun _ => 0)))) := by rw [← hF3_]; exact ev_up_s
  exact ev_init (pc := 9) (As := [.int i1, .ref (n + 1)]) (st := [.ref n, .ref r0]) (Q2 := Q9) M_Sp_init d_Qs_makeJoin_9 lc_Qs_57 rfl rfl wd_701 rfl rfl (Nat.le_of_ble_eq_true rfl) (Nat.le_of_ble_eq_true rfl) (Nat.le_of_ble_eq_true rfl) hb_rc9 hs_rs9 (by subst hF1_ hF3_; exact c9_0) k12_1

set_option maxRecDepth 100000 in
set_option maxHeartbeats 4000000 in
theorem s_Qs_makeJoin_12 {l : Launch} {X : ev_X} {bc bs n : Nat} {F : ev_H} {Q : Option Value → Nat → ev_H → Prop} {r0 : Nat} {i1 : Int32} {i2 : Int32} {rs0 : Nat} {rs1 : Nat} {ir0_height : Int32} {v15 : Int32} {irs0_height : Int32} {Q20 : Option Value → Nat → ev_H → Prop} {bc20 : Nat} {bs20 : Nat} {rc20 : Nat} {rs20 : Nat} (h_r0 : F r0 = some (.inr (5, [.ref (r0 + 1), .ref (r0 + 2), .int ir0_height]))) (h_rs0 : F rs0 = some (.inr (5, [.ref (rs0 + 1), .ref (rs0 + 2), .int irs0_height]))) (hb_rc20 : rc20 + bc20 ≤ bc) (hs_rs20 : rs20 + bs20 ≤ bs)
    (c15_0 : Cal l X M_Qs_deepest 0 0 [.ref r0, .int i2] n F (ev_pure (.int v15) n F))
    (c20_1 : Cal l X M_Qs_push bc20 bs20 [.ref rs0, .ref rs1, .int i2, .int (v15 + 1)] n F Q20)
    (k23_2 : ∀ v2 n2 F2, Q20 v2 n2 F2 → Ev l X M_Qs_makeJoin rc20 rs20 23 [(0, .ref r0), (1, .int i1), (2, .int i2)] (v2.toList ++ []) n2 F2 (ev_mq X Q)) :
    Ev l X M_Qs_makeJoin bc bs 12 [(0, .ref r0), (1, .int i1), (2, .int i2)] [.ref rs1, .ref rs0] n F (ev_mq X Q) := by
  refine ev_iload_n (pc := 12) d_Qs_makeJoin_12 rfl ?_
  refine ev_aload_n (pc := 13) d_Qs_makeJoin_13 rfl ?_
  refine ev_iload_n (pc := 14) d_Qs_makeJoin_14 rfl ?_
  refine ev_invokevirtual (pc := 15) (As := [.int i2]) (st := [.int i2, .ref rs1, .ref rs0]) (Q2 := ev_pure (.int v15) n F) (bc1 := 0) (bs1 := 0) M_Qs_deepest rC5 d_Qs_makeJoin_15 lc_Qs_29 wd_727 wd_728 rfl h_r0 rfl rfl (Nat.le_of_ble_eq_true rfl) (Nat.le_of_ble_eq_true rfl) (Nat.le_of_ble_eq_true rfl) (Nat.le_refl _) (Nat.le_refl _) c15_0 ?_
  refine ev_purek ?_
  refine ev_iconst (pc := 18) 1 d_Qs_makeJoin_18 (by decide) ?_
  refine ev_iadd (pc := 19) d_Qs_makeJoin_19 ?_
  exact ev_invokevirtual (pc := 20) (As := [.ref rs1, .int i2, .int (v15 + 1)]) (st := []) (Q2 := Q20) M_Qs_push rC5 d_Qs_makeJoin_20 lc_Qs_60 wd_715 wd_s23 rfl h_rs0 rfl rfl (Nat.le_of_ble_eq_true rfl) (Nat.le_of_ble_eq_true rfl) (Nat.le_of_ble_eq_true rfl) hb_rc20 hs_rs20 c20_1 k23_2

set_option maxRecDepth 100000 in
set_option maxHeartbeats 4000000 in
theorem s_Qs_makeJoin_23 {l : Launch} {X : ev_X} {bc bs n : Nat} {F : ev_H} {Q : Option Value → Nat → ev_H → Prop} {r0 : Nat} {i1 : Int32} {i2 : Int32} {is0 : Int32} 
    (q23_0 : Q (some (.int is0)) n F) :
    Ev l X M_Qs_makeJoin bc bs 23 [(0, .ref r0), (1, .int i1), (2, .int i2)] [.int is0] n F (ev_mq X Q) := by
  exact ev_ireturn (pc := 23) d_Qs_makeJoin_23 rfl rfl q23_0
set_option maxRecDepth 100000 in
set_option maxHeartbeats 4000000 in
theorem s_Qs_matches_0 {l : Launch} {X : ev_X} {bc bs n : Nat} {F : ev_H} {Q : Option Value → Nat → ev_H → Prop} {r0 : Nat} {r1 : Nat} 
    (k4_0 : Ev l X M_Qs_matches bc bs 4 [(0, .ref r0), (1, .ref r1), (2, .int 0), (3, .int 0)] [] n F (ev_mq X Q)) :
    Ev l X M_Qs_matches bc bs 0 [(0, .ref r0), (1, .ref r1)] [] n F (ev_mq X Q) := by
  refine ev_iconst (pc := 0) 0 d_Qs_matches_0 (by decide) ?_
  refine ev_istore_n (pc := 1) d_Qs_matches_1 (Nat.le_of_ble_eq_true rfl) [1, 2, 0] rfl ?_
  refine ev_iconst (pc := 2) 0 d_Qs_matches_2 (by decide) ?_
  refine ev_istore_n (pc := 3) d_Qs_matches_3 (Nat.le_of_ble_eq_true rfl) [1, 2, 3, 0] rfl ?_
  exact k4_0

set_option maxRecDepth 100000 in
set_option maxHeartbeats 4000000 in
theorem s_Qs_matches_4 {l : Launch} {X : ev_X} {bc bs n : Nat} {F : ev_H} {Q : Option Value → Nat → ev_H → Prop} {r0 : Nat} {r1 : Nat} {i2 : Int32} {i3 : Int32} {ir0_height : Int32} {r0p1_elementData : Nat} {ir0p1_size : Int32} {ir0p1_modCount : Int32} {v9 : Int32} {v20 : Nat} {iv20_kind : Int32} {v20_terms : Nat} {v28 : Int32} (h_r0 : F r0 = some (.inr (5, [.ref (r0 + 1), .ref (r0 + 2), .int ir0_height]))) (h_r0p1 : F (r0 + 1) = some (.inr (12, [.ref r0p1_elementData, .int ir0p1_size, .int ir0p1_modCount])))
    (c9_0 : Cal l X M_AL_size 0 0 [.ref (r0 + 1)] n F (ev_pure (.int v9) n F))
    (q50_1 : (v9 ≤ i3) → (¬ (i2 &&& 1) = 1) → Q (some (.int 0)) n F)
    (q50_2 : (v9 ≤ i3) → ((i2 &&& 1) = 1) → Q (some (.int 1)) n F)
    (c20_3 : (¬ v9 ≤ i3) → Cal l X M_AL_get 0 0 [.ref (r0 + 1), .int i3] n F (ev_pure (.ref v20) n F))
    (hv20_4 : (¬ v9 ≤ i3) → F v20 = some (.inr (10, [.int iv20_kind, .ref v20_terms])))
    (c28_5 : (¬ v9 ≤ i3) → Cal l X M_Qs_answersBehind 0 0 [.ref v20, .int i2, .ref r1] n F (ev_pure (.int v28) n F))
    (k4_6 : (¬ v9 ≤ i3) → Ev l X M_Qs_matches bc bs 4 [(0, .ref r0), (1, .ref r1), (2, .int v28), (3, .int (i3 + 1))] [] n F (ev_mq X Q)) :
    Ev l X M_Qs_matches bc bs 4 [(0, .ref r0), (1, .ref r1), (2, .int i2), (3, .int i3)] [] n F (ev_mq X Q) := by
  refine ev_iload_n (pc := 4) d_Qs_matches_4 rfl ?_
  refine ev_aload_n (pc := 5) d_Qs_matches_5 rfl ?_
  refine ev_getfield (pc := 6) 0 d_Qs_matches_6 fl_Qs_12 h_r0 rfl ?_
  refine ev_invokevirtual (pc := 9) (As := []) (st := [.int i3]) (Q2 := ev_pure (.int v9) n F) (bc1 := 0) (bs1 := 0) M_AL_size rC12 d_Qs_matches_9 lc_Qs_39 wd_469 wd_470 rfl h_r0p1 rfl rfl (Nat.le_of_ble_eq_true rfl) (Nat.le_of_ble_eq_true rfl) (Nat.le_of_ble_eq_true rfl) (Nat.le_refl _) (Nat.le_refl _) c9_0 ?_
  refine ev_purek ?_
  refine ev_icmp_ge (pc := 12) 38 d_Qs_matches_12 (by decide) (fun c12 => ?_) (fun c12 => ?_)
  · refine ev_iload_n (pc := 38) d_Qs_matches_38 rfl ?_
    refine ev_iconst (pc := 39) 1 d_Qs_matches_39 (by decide) ?_
    refine ev_iand (pc := 40) d_Qs_matches_40 ?_
    refine ev_iconst (pc := 41) 1 d_Qs_matches_41 (by decide) ?_
    refine ev_icmp_ne (pc := 42) 49 d_Qs_matches_42 (by decide) (fun c42 => ?_) (fun c42 => ?_)
    · refine ev_iconst (pc := 49) 0 d_Qs_matches_49 (by decide) ?_
      exact ev_ireturn (pc := 50) d_Qs_matches_50 rfl rfl (q50_1 c12 c42)
    · refine ev_iconst (pc := 45) 1 d_Qs_matches_45 (by decide) ?_
      refine ev_goto (pc := 46) 50 d_Qs_matches_46 (by decide) ?_
      exact ev_ireturn (pc := 50) d_Qs_matches_50 rfl rfl (q50_2 c12 c42)
  · refine ev_aload_n (pc := 15) d_Qs_matches_15 rfl ?_
    refine ev_getfield (pc := 16) 0 d_Qs_matches_16 fl_Qs_12 h_r0 rfl ?_
    refine ev_iload_n (pc := 19) d_Qs_matches_19 rfl ?_
    refine ev_invokevirtual (pc := 20) (As := [.int i3]) (st := []) (Q2 := ev_pure (.ref v20) n F) (bc1 := 0) (bs1 := 0) M_AL_get rC12 d_Qs_matches_20 lc_Qs_43 wd_473 wd_474 rfl h_r0p1 rfl rfl (Nat.le_of_ble_eq_true rfl) (Nat.le_of_ble_eq_true rfl) (Nat.le_of_ble_eq_true rfl) (Nat.le_refl _) (Nat.le_refl _) (c20_3 c12) ?_
    refine ev_purek ?_
    refine ev_checkcast (pc := 23) rC10 d_Qs_matches_23 wd_698 wd_1205 rfl (hv20_4 c12) ?_
    refine ev_iload_n (pc := 26) d_Qs_matches_26 rfl ?_
    refine ev_aload_n (pc := 27) d_Qs_matches_27 rfl ?_
    refine ev_invokestatic (pc := 28) (As := [.ref v20, .int i2, .ref r1]) (st := []) (Q2 := ev_pure (.int v28) n F) (bc1 := 0) (bs1 := 0) M_Qs_answersBehind d_Qs_matches_28 lc_Qs_75 wd_770 rfl rfl (Nat.le_of_ble_eq_true rfl) (Nat.le_of_ble_eq_true rfl) (Nat.le_of_ble_eq_true rfl) (Nat.le_refl _) (Nat.le_refl _) (c28_5 c12) ?_
    refine ev_purek ?_
    refine ev_istore_n (pc := 31) d_Qs_matches_31 (Nat.le_of_ble_eq_true rfl) [1, 2, 0, 3] rfl ?_
    refine ev_iinc (pc := 32) 3 1 d_Qs_matches_32 rfl (by decide) (Nat.le_of_ble_eq_true rfl) [1, 2, 3, 0] rfl ?_
    refine ev_goto (pc := 35) 4 d_Qs_matches_35 (by decide) ?_
    exact (k4_6 c12)
set_option maxRecDepth 100000 in
set_option maxHeartbeats 4000000 in
theorem s_Qs_answersBehind_0 {l : Launch} {X : ev_X} {bc bs n : Nat} {F : ev_H} {Q : Option Value → Nat → ev_H → Prop} {r0 : Nat} {i1 : Int32} {r2 : Nat} {ir0_kind : Int32} {r0_terms : Nat} {ir2_id : Int32} {r2_terms : Nat} {v61 : Int32} (h_r0 : F r0 = some (.inr (10, [.int ir0_kind, .ref r0_terms]))) (h_r2 : F r2 = some (.inr (8, [.int ir2_id, .ref r2_terms])))
    (q40_0 : (ir0_kind = 0) → Q (some (.int ((i1 >>> (1 &&& 31)) &&& (i1 ||| (-2))))) n F)
    (q48_1 : (¬ ir0_kind = 0) → (ir0_kind = 1) → Q (some (.int ((i1 >>> (1 &&& 31)) ||| (i1 &&& 1)))) n F)
    (q52_2 : (¬ ir0_kind = 0) → (¬ ir0_kind = 1) → (ir0_kind = 2) → Q (some (.int (i1 ^^^ 1))) n F)
    (sw4_3 : (¬ ir0_kind = 0) → (¬ ir0_kind = 1) → (¬ ir0_kind = 2) → ir0_kind.toInt < 0 ∨ 2 < ir0_kind.toInt)
    (c61_4 : (¬ ir0_kind = 0) → (¬ ir0_kind = 1) → (¬ ir0_kind = 2) → Cal l X M_D_hasRow 0 0 [.ref r2, .ref r0_terms] n F (ev_pure (.int v61) n F))
    (q73_5 : (¬ ir0_kind = 0) → (¬ ir0_kind = 1) → (¬ ir0_kind = 2) → (v61 = 0) → Q (some (.int ((i1 <<< (1 &&& 31)) ||| 0))) n F)
    (q73_6 : (¬ ir0_kind = 0) → (¬ ir0_kind = 1) → (¬ ir0_kind = 2) → (¬ v61 = 0) → Q (some (.int ((i1 <<< (1 &&& 31)) ||| 1))) n F) :
    Ev l X M_Qs_answersBehind bc bs 0 [(0, .ref r0), (1, .int i1), (2, .ref r2)] [] n F (ev_mq X Q) := by
  refine ev_aload_n (pc := 0) d_Qs_answersBehind_0 rfl ?_
  refine ev_getfield (pc := 1) 0 d_Qs_answersBehind_1 fl_Qs_79 h_r0 rfl ?_
  refine ev_swk (pc := 4) 0 0 32 d_Qs_answersBehind_4 (by decide) (by decide) rfl (by decide) (fun c4_0 => ?_) (fun c4_0 => ?_)
  · refine ev_iload_n (pc := 32) d_Qs_answersBehind_32 rfl ?_
    refine ev_iconst (pc := 33) 1 d_Qs_answersBehind_33 (by decide) ?_
    refine ev_ishr (pc := 34) d_Qs_answersBehind_34 ?_
    refine ev_iload_n (pc := 35) d_Qs_answersBehind_35 rfl ?_
    refine ev_bipush (pc := 36) (-2) d_Qs_answersBehind_36 (by decide) ?_
    refine ev_ior (pc := 38) d_Qs_answersBehind_38 ?_
    refine ev_iand (pc := 39) d_Qs_answersBehind_39 ?_
    exact ev_ireturn (pc := 40) d_Qs_answersBehind_40 rfl rfl (q40_0 c4_0)
  refine ev_swk (pc := 4) 1 1 41 d_Qs_answersBehind_4 (by decide) (by decide) rfl (by decide) (fun c4_1 => ?_) (fun c4_1 => ?_)
  · refine ev_iload_n (pc := 41) d_Qs_answersBehind_41 rfl ?_
    refine ev_iconst (pc := 42) 1 d_Qs_answersBehind_42 (by decide) ?_
    refine ev_ishr (pc := 43) d_Qs_answersBehind_43 ?_
    refine ev_iload_n (pc := 44) d_Qs_answersBehind_44 rfl ?_
    refine ev_iconst (pc := 45) 1 d_Qs_answersBehind_45 (by decide) ?_
    refine ev_iand (pc := 46) d_Qs_answersBehind_46 ?_
    refine ev_ior (pc := 47) d_Qs_answersBehind_47 ?_
    exact ev_ireturn (pc := 48) d_Qs_answersBehind_48 rfl rfl (q48_1 c4_0 c4_1)
  refine ev_swk (pc := 4) 2 2 49 d_Qs_answersBehind_4 (by decide) (by decide) rfl (by decide) (fun c4_2 => ?_) (fun c4_2 => ?_)
  · refine ev_iload_n (pc := 49) d_Qs_answersBehind_49 rfl ?_
    refine ev_iconst (pc := 50) 1 d_Qs_answersBehind_50 (by decide) ?_
    refine ev_ixor (pc := 51) d_Qs_answersBehind_51 ?_
    exact ev_ireturn (pc := 52) d_Qs_answersBehind_52 rfl rfl (q52_2 c4_0 c4_1 c4_2)
  refine ev_tableOut (pc := 4) 53 d_Qs_answersBehind_4 (sw4_3 c4_0 c4_1 c4_2) (by decide) ?_
  refine ev_iload_n (pc := 53) d_Qs_answersBehind_53 rfl ?_
  refine ev_iconst (pc := 54) 1 d_Qs_answersBehind_54 (by decide) ?_
  refine ev_ishl (pc := 55) d_Qs_answersBehind_55 ?_
  refine ev_aload_n (pc := 56) d_Qs_answersBehind_56 rfl ?_
  refine ev_aload_n (pc := 57) d_Qs_answersBehind_57 rfl ?_
  refine ev_getfield (pc := 58) 1 d_Qs_answersBehind_58 fl_Qs_53 h_r0 rfl ?_
  refine ev_invokevirtual (pc := 61) (As := [.ref r0_terms]) (st := [.int (i1 <<< (1 &&& 31))]) (Q2 := ev_pure (.int v61) n F) (bc1 := 0) (bs1 := 0) M_D_hasRow rC8 d_Qs_answersBehind_61 lc_Qs_82 wd_773 wd_774 rfl h_r2 rfl rfl (Nat.le_of_ble_eq_true rfl) (Nat.le_of_ble_eq_true rfl) (Nat.le_of_ble_eq_true rfl) (Nat.le_refl _) (Nat.le_refl _) (c61_4 c4_0 c4_1 c4_2) ?_
  refine ev_purek ?_
  refine ev_if_eq (pc := 64) 71 d_Qs_answersBehind_64 (by decide) (fun c64 => ?_) (fun c64 => ?_)
  · refine ev_iconst (pc := 71) 0 d_Qs_answersBehind_71 (by decide) ?_
    refine ev_ior (pc := 72) d_Qs_answersBehind_72 ?_
    exact ev_ireturn (pc := 73) d_Qs_answersBehind_73 rfl rfl (q73_5 c4_0 c4_1 c4_2 c64)
  · refine ev_iconst (pc := 67) 1 d_Qs_answersBehind_67 (by decide) ?_
    refine ev_goto (pc := 68) 72 d_Qs_answersBehind_68 (by decide) ?_
    refine ev_ior (pc := 72) d_Qs_answersBehind_72 ?_
    exact ev_ireturn (pc := 73) d_Qs_answersBehind_73 rfl rfl (q73_6 c4_0 c4_1 c4_2 c64)
set_option maxRecDepth 100000 in
set_option maxHeartbeats 4000000 in
theorem s_Ra_clear_0 {l : Launch} {X : ev_X} {bc bs n : Nat} {F : ev_H} {Q : Option Value → Nat → ev_H → Prop} {r0 : Nat} {ir0_termCount : Int32} {ir0_weighedCount : Int32} (h_r0 : F r0 = some (.inr (6, [.ref (r0 + 1), .ref (r0 + 10), .int ir0_termCount, .int ir0_weighedCount])))
    (q5_0 : Q none n (ev_up F r0 (.inr (6, [.ref (r0 + 1), .ref (r0 + 10), .int ir0_termCount, .int 0])))) :
    Ev l X M_Ra_clear bc bs 0 [(0, .ref r0)] [] n F (ev_mq X Q) := by
  refine ev_aload_n (pc := 0) d_Ra_clear_0 rfl ?_
  refine ev_iconst (pc := 1) 0 d_Ra_clear_1 (by decide) ?_
  refine ev_putfield (pc := 2) 3 _ d_Ra_clear_2 fl_Ra_24 h_r0 pf_6_weighedCount rfl rfl (Nat.le_of_ble_eq_true rfl) (fun F1_ hF1_ => ?_)
  have g2_ : F1_ r0 = some (.inr (6, [.ref (r0 + 1), .ref (r0 + 10), .int ir0_termCount, .int 0])) := by rw [← hF1_]; exact ev_up_s
  exact ev_return (pc := 5) d_Ra_clear_5 rfl (by subst hF1_; exact q5_0)
set_option maxRecDepth 100000 in
set_option maxHeartbeats 4000000 in
theorem s_Ra_weighBag_0 {l : Launch} {X : ev_X} {bc bs n : Nat} {F : ev_H} {Q : Option Value → Nat → ev_H → Prop} {r0 : Nat} {r1 : Nat} {r2 : Nat} {v1 : Int32} {ir1_height : Int32} {ir0_termCount : Int32} {ir0_weighedCount : Int32} (h_r1 : F r1 = some (.inr (5, [.ref (r1 + 1), .ref (r1 + 2), .int ir1_height]))) (h_r0 : F r0 = some (.inr (6, [.ref (r0 + 1), .ref (r0 + 10), .int ir0_termCount, .int ir0_weighedCount])))
    (c1_0 : Cal l X M_P_totalLength 0 0 [.ref r2] n F (ev_pure (.int v1) n F))
    (k21_1 : Ev l X M_Ra_weighBag bc bs 21 [(0, .ref r0), (1, .ref r1), (2, .ref r2), (3, .int v1), (4, .int 0)] [] n (ev_up F r0 (.inr (6, [.ref (r0 + 1), .ref (r0 + 10), .int (if 8 < ir1_height then 8 else ir1_height), .int ir0_weighedCount]))) (ev_mq X Q)) :
    Ev l X M_Ra_weighBag bc bs 0 [(0, .ref r0), (1, .ref r1), (2, .ref r2)] [] n F (ev_mq X Q) := by
  refine ev_aload_n (pc := 0) d_Ra_weighBag_0 rfl ?_
  refine ev_invokestatic (pc := 1) (As := [.ref r2]) (st := []) (Q2 := ev_pure (.int v1) n F) (bc1 := 0) (bs1 := 0) M_P_totalLength d_Ra_weighBag_1 lc_Ra_27 wd_798 rfl rfl (Nat.le_of_ble_eq_true rfl) (Nat.le_of_ble_eq_true rfl) (Nat.le_of_ble_eq_true rfl) (Nat.le_refl _) (Nat.le_refl _) c1_0 ?_
  refine ev_purek ?_
  refine ev_istore_n (pc := 4) d_Ra_weighBag_4 (Nat.le_of_ble_eq_true rfl) [1, 2, 3, 0] rfl ?_
  refine ev_aload_n (pc := 5) d_Ra_weighBag_5 rfl ?_
  refine ev_aload_n (pc := 6) d_Ra_weighBag_6 rfl ?_
  refine ev_getfield (pc := 7) 2 d_Ra_weighBag_7 fl_Ra_31 h_r1 rfl ?_
  refine ev_bipush (pc := 10) 8 d_Ra_weighBag_10 (by decide) ?_
  refine ev_mmin (pc := 12) d_Ra_weighBag_12 wd_804 wd_278 wd_15 wd_279 (Nat.le_of_ble_eq_true rfl) (Nat.le_of_ble_eq_true rfl) ?_
  refine ev_putfield (pc := 15) 2 _ d_Ra_weighBag_15 fl_Ra_20 h_r0 pf_6_termCount rfl rfl (Nat.le_of_ble_eq_true rfl) (fun F1_ hF1_ => ?_)
  have g2_ : F1_ r1 = some (.inr (5, [.ref (r1 + 1), .ref (r1 + 2), .int ir1_height])) := by rw [← hF1_]; exact ev_up_k (ev_ne_oo h_r1 h_r0 rfl) h_r1
  have g3_ : F1_ r0 = some (.inr (6, [.ref (r0 + 1), .ref (r0 + 10), .int (if 8 < ir1_height then 8 else ir1_height), .int ir0_weighedCount])) := by rw [← hF1_]; exact ev_up_s
  refine ev_iconst (pc := 18) 0 d_Ra_weighBag_18 (by decide) ?_
  refine ev_istore (pc := 19) d_Ra_weighBag_19 (Nat.le_of_ble_eq_true rfl) [1, 2, 3, 4, 0] rfl ?_
  exact (by subst hF1_; exact k21_1)

set_option maxRecDepth 100000 in
set_option maxHeartbeats 4000000 in
theorem s_Ra_weighBag_21 {l : Launch} {X : ev_X} {bc bs n : Nat} {F : ev_H} {Q : Option Value → Nat → ev_H → Prop} {r0 : Nat} {r1 : Nat} {r2 : Nat} {i3 : Int32} {i4 : Int32} {ir0_termCount : Int32} {ir0_weighedCount : Int32} {ir1_height : Int32} {v36 : Int64} {Q41 : Option Value → Nat → ev_H → Prop} {bc41 : Nat} {bs41 : Nat} {rc41 : Nat} {rs41 : Nat} (h_r0 : F r0 = some (.inr (6, [.ref (r0 + 1), .ref (r0 + 10), .int ir0_termCount, .int ir0_weighedCount]))) (h_r1 : F r1 = some (.inr (5, [.ref (r1 + 1), .ref (r1 + 2), .int ir1_height]))) (hb_rc41 : rc41 + bc41 ≤ bc) (hs_rs41 : rs41 + bs41 ≤ bs)
    (q50_0 : (ir0_termCount ≤ i4) → Q none n F)
    (c36_1 : (¬ ir0_termCount ≤ i4) → Cal l X M_Qs_termAt 0 0 [.ref r1, .int i4] n F (ev_pure (.long v36) n F))
    (c41_2 : (¬ ir0_termCount ≤ i4) → Cal l X M_Ra_weighTerm bc41 bs41 [.ref r0, .int i4, .long v36, .ref r2, .int i3] n F Q41)
    (k44_3 : (¬ ir0_termCount ≤ i4) → ∀ v2 n2 F2, Q41 v2 n2 F2 → Ev l X M_Ra_weighBag rc41 rs41 44 [(0, .ref r0), (1, .ref r1), (2, .ref r2), (3, .int i3), (4, .int i4)] (v2.toList ++ []) n2 F2 (ev_mq X Q)) :
    Ev l X M_Ra_weighBag bc bs 21 [(0, .ref r0), (1, .ref r1), (2, .ref r2), (3, .int i3), (4, .int i4)] [] n F (ev_mq X Q) := by
  refine ev_iload (pc := 21) d_Ra_weighBag_21 rfl ?_
  refine ev_aload_n (pc := 23) d_Ra_weighBag_23 rfl ?_
  refine ev_getfield (pc := 24) 2 d_Ra_weighBag_24 fl_Ra_20 h_r0 rfl ?_
  refine ev_icmp_ge (pc := 27) 50 d_Ra_weighBag_27 (by decide) (fun c27 => ?_) (fun c27 => ?_)
  · exact ev_return (pc := 50) d_Ra_weighBag_50 rfl (q50_0 c27)
  · refine ev_aload_n (pc := 30) d_Ra_weighBag_30 rfl ?_
    refine ev_iload (pc := 31) d_Ra_weighBag_31 rfl ?_
    refine ev_aload_n (pc := 33) d_Ra_weighBag_33 rfl ?_
    refine ev_iload (pc := 34) d_Ra_weighBag_34 rfl ?_
    refine ev_invokevirtual (pc := 36) (As := [.int i4]) (st := [.int i4, .ref r0]) (Q2 := ev_pure (.long v36) n F) (bc1 := 0) (bs1 := 0) M_Qs_termAt rC5 d_Ra_weighBag_36 lc_Ra_42 wd_806 wd_807 rfl h_r1 rfl rfl (Nat.le_of_ble_eq_true rfl) (Nat.le_of_ble_eq_true rfl) (Nat.le_of_ble_eq_true rfl) (Nat.le_refl _) (Nat.le_refl _) (c36_1 c27) ?_
    refine ev_purek ?_
    refine ev_aload_n (pc := 39) d_Ra_weighBag_39 rfl ?_
    refine ev_iload_n (pc := 40) d_Ra_weighBag_40 rfl ?_
    exact ev_invokevirtual (pc := 41) (As := [.int i4, .long v36, .ref r2, .int i3]) (st := []) (Q2 := Q41) M_Ra_weighTerm rC6 d_Ra_weighBag_41 lc_Ra_46 wd_811 wd_s27 rfl h_r0 rfl rfl (Nat.le_of_ble_eq_true rfl) (Nat.le_of_ble_eq_true rfl) (Nat.le_of_ble_eq_true rfl) hb_rc41 hs_rs41 (c41_2 c27) (k44_3 c27)

set_option maxRecDepth 100000 in
set_option maxHeartbeats 4000000 in
theorem s_Ra_weighBag_44 {l : Launch} {X : ev_X} {bc bs n : Nat} {F : ev_H} {Q : Option Value → Nat → ev_H → Prop} {r0 : Nat} {r1 : Nat} {r2 : Nat} {i3 : Int32} {i4 : Int32} 
    (k21_0 : Ev l X M_Ra_weighBag bc bs 21 [(0, .ref r0), (1, .ref r1), (2, .ref r2), (3, .int i3), (4, .int (i4 + 1))] [] n F (ev_mq X Q)) :
    Ev l X M_Ra_weighBag bc bs 44 [(0, .ref r0), (1, .ref r1), (2, .ref r2), (3, .int i3), (4, .int i4)] [] n F (ev_mq X Q) := by
  refine ev_iinc (pc := 44) 4 1 d_Ra_weighBag_44 rfl (by decide) (Nat.le_of_ble_eq_true rfl) [1, 2, 3, 4, 0] rfl ?_
  refine ev_goto (pc := 47) 21 d_Ra_weighBag_47 (by decide) ?_
  exact k21_0
set_option maxRecDepth 100000 in
set_option maxHeartbeats 4000000 in
theorem s_Qs_termAt_0 {l : Launch} {X : ev_X} {bc bs n : Nat} {F : ev_H} {Q : Option Value → Nat → ev_H → Prop} {r0 : Nat} {i1 : Int32} {ir0_height : Int32} {r0p1_elementData : Nat} {ir0p1_size : Int32} {ir0p1_modCount : Int32} {v5 : Int32} {v17 : Nat} {iv17_kind : Int32} {v17_terms : Nat} {v23 : Int64} (h_r0 : F r0 = some (.inr (5, [.ref (r0 + 1), .ref (r0 + 2), .int ir0_height]))) (h_r0p1 : F (r0 + 1) = some (.inr (12, [.ref r0p1_elementData, .int ir0p1_size, .int ir0p1_modCount])))
    (c5_0 : Cal l X M_AL_size 0 0 [.ref (r0 + 1)] n F (ev_pure (.int v5) n F))
    (q30_1 : (v5 ≤ i1) → Q (some (.long 0)) n F)
    (c17_2 : (¬ v5 ≤ i1) → Cal l X M_AL_get 0 0 [.ref (r0 + 1), .int i1] n F (ev_pure (.ref v17) n F))
    (hv17_3 : (¬ v5 ≤ i1) → F v17 = some (.inr (10, [.int iv17_kind, .ref v17_terms])))
    (c23_4 : (¬ v5 ≤ i1) → Cal l X M_Qs_firstTerm 0 0 [.ref r0, .ref v17] n F (ev_pure (.long v23) n F))
    (q30_5 : (¬ v5 ≤ i1) → Q (some (.long v23)) n F) :
    Ev l X M_Qs_termAt bc bs 0 [(0, .ref r0), (1, .int i1)] [] n F (ev_mq X Q) := by
  refine ev_iload_n (pc := 0) d_Qs_termAt_0 rfl ?_
  refine ev_aload_n (pc := 1) d_Qs_termAt_1 rfl ?_
  refine ev_getfield (pc := 2) 0 d_Qs_termAt_2 fl_Qs_12 h_r0 rfl ?_
  refine ev_invokevirtual (pc := 5) (As := []) (st := [.int i1]) (Q2 := ev_pure (.int v5) n F) (bc1 := 0) (bs1 := 0) M_AL_size rC12 d_Qs_termAt_5 lc_Qs_39 wd_469 wd_470 rfl h_r0p1 rfl rfl (Nat.le_of_ble_eq_true rfl) (Nat.le_of_ble_eq_true rfl) (Nat.le_of_ble_eq_true rfl) (Nat.le_refl _) (Nat.le_refl _) c5_0 ?_
  refine ev_purek ?_
  refine ev_icmp_ge (pc := 8) 29 d_Qs_termAt_8 (by decide) (fun c8 => ?_) (fun c8 => ?_)
  · refine ev_lconst (pc := 29) 0 d_Qs_termAt_29 (by decide) ?_
    exact ev_lreturn (pc := 30) d_Qs_termAt_30 rfl (q30_1 c8)
  · refine ev_aload_n (pc := 11) d_Qs_termAt_11 rfl ?_
    refine ev_aload_n (pc := 12) d_Qs_termAt_12 rfl ?_
    refine ev_getfield (pc := 13) 0 d_Qs_termAt_13 fl_Qs_12 h_r0 rfl ?_
    refine ev_iload_n (pc := 16) d_Qs_termAt_16 rfl ?_
    refine ev_invokevirtual (pc := 17) (As := [.int i1]) (st := [.ref r0]) (Q2 := ev_pure (.ref v17) n F) (bc1 := 0) (bs1 := 0) M_AL_get rC12 d_Qs_termAt_17 lc_Qs_43 wd_473 wd_474 rfl h_r0p1 rfl rfl (Nat.le_of_ble_eq_true rfl) (Nat.le_of_ble_eq_true rfl) (Nat.le_of_ble_eq_true rfl) (Nat.le_refl _) (Nat.le_refl _) (c17_2 c8) ?_
    refine ev_purek ?_
    refine ev_checkcast (pc := 20) rC10 d_Qs_termAt_20 wd_698 wd_1205 rfl (hv17_3 c8) ?_
    refine ev_invokevirtual (pc := 23) (As := [.ref v17]) (st := []) (Q2 := ev_pure (.long v23) n F) (bc1 := 0) (bs1 := 0) M_Qs_firstTerm rC5 d_Qs_termAt_23 lc_Qs_49 wd_740 wd_s24 rfl h_r0 rfl rfl (Nat.le_of_ble_eq_true rfl) (Nat.le_of_ble_eq_true rfl) (Nat.le_of_ble_eq_true rfl) (Nat.le_refl _) (Nat.le_refl _) (c23_4 c8) ?_
    refine ev_purek ?_
    refine ev_goto (pc := 26) 30 d_Qs_termAt_26 (by decide) ?_
    exact ev_lreturn (pc := 30) d_Qs_termAt_30 rfl (q30_5 c8)
set_option maxRecDepth 100000 in
set_option maxHeartbeats 4000000 in
theorem s_Ra_weighTerm_0 {l : Launch} {X : ev_X} {bc bs n : Nat} {F : ev_H} {Q : Option Value → Nat → ev_H → Prop} {r0 : Nat} {i1 : Int32} {j2 : Int64} {r4 : Nat} {i5 : Int32} {r4_elementData : Nat} {ir4_size : Int32} {ir4_modCount : Int32} {v2 : Int32} {v8 : Int32} {v11 : Int32} {ir0_termCount : Int32} {ir0_weighedCount : Int32} {r0p10_f : Nat → Int32} (h_r4 : F r4 = some (.inr (12, [.ref r4_elementData, .int ir4_size, .int ir4_modCount]))) (h_r0 : F r0 = some (.inr (6, [.ref (r0 + 1), .ref (r0 + 10), .int ir0_termCount, .int ir0_weighedCount]))) (h_r0p10 : F (r0 + 10) = some (.inl (0, 8, .inl r0p10_f)))
    (c2_0 : Cal l X M_AL_size 0 0 [.ref r4] n F (ev_pure (.int v2) n F))
    (c8_1 : Cal l X M_Ra_holders 0 0 [.long j2, .ref r4] n F (ev_pure (.int v8) n F))
    (c11_2 : Cal l X M_Ra_rarity 0 0 [.int v2, .int v8] n F (ev_pure (.int v11) n F))
    (in22_3 : vp_in i1 8)
    (k26_4 : Ev l X M_Ra_weighTerm bc bs 26 [(0, .ref r0), (1, .int i1), (2, .long j2), (4, .ref r4), (5, .int i5), (6, .int v11), (7, .int 0)] [] n (ev_up F (r0 + 10) (.inl (0, 8, .inl (upd r0p10_f i1.toNatClampNeg 0)))) (ev_mq X Q)) :
    Ev l X M_Ra_weighTerm bc bs 0 [(0, .ref r0), (1, .int i1), (2, .long j2), (4, .ref r4), (5, .int i5)] [] n F (ev_mq X Q) := by
  refine ev_aload (pc := 0) d_Ra_weighTerm_0 rfl ?_
  refine ev_invokevirtual (pc := 2) (As := []) (st := []) (Q2 := ev_pure (.int v2) n F) (bc1 := 0) (bs1 := 0) M_AL_size rC12 d_Ra_weighTerm_2 lc_Ra_50 wd_469 wd_470 rfl h_r4 rfl rfl (Nat.le_of_ble_eq_true rfl) (Nat.le_of_ble_eq_true rfl) (Nat.le_of_ble_eq_true rfl) (Nat.le_refl _) (Nat.le_refl _) c2_0 ?_
  refine ev_purek ?_
  refine ev_lload_n (pc := 5) d_Ra_weighTerm_5 rfl ?_
  refine ev_aload (pc := 6) d_Ra_weighTerm_6 rfl ?_
  refine ev_invokestatic (pc := 8) (As := [.long j2, .ref r4]) (st := [.int v2]) (Q2 := ev_pure (.int v8) n F) (bc1 := 0) (bs1 := 0) M_Ra_holders d_Ra_weighTerm_8 lc_Ra_56 wd_815 rfl rfl (Nat.le_of_ble_eq_true rfl) (Nat.le_of_ble_eq_true rfl) (Nat.le_of_ble_eq_true rfl) (Nat.le_refl _) (Nat.le_refl _) c8_1 ?_
  refine ev_purek ?_
  refine ev_invokestatic (pc := 11) (As := [.int v2, .int v8]) (st := []) (Q2 := ev_pure (.int v11) n F) (bc1 := 0) (bs1 := 0) M_Ra_rarity d_Ra_weighTerm_11 lc_Ra_60 wd_824 rfl rfl (Nat.le_of_ble_eq_true rfl) (Nat.le_of_ble_eq_true rfl) (Nat.le_of_ble_eq_true rfl) (Nat.le_refl _) (Nat.le_refl _) c11_2 ?_
  refine ev_purek ?_
  refine ev_istore (pc := 14) d_Ra_weighTerm_14 (Nat.le_of_ble_eq_true rfl) [1, 2, 3, 4, 5, 0] rfl ?_
  refine ev_aload_n (pc := 16) d_Ra_weighTerm_16 rfl ?_
  refine ev_getfield (pc := 17) 1 d_Ra_weighTerm_17 fl_Ra_16 h_r0 rfl ?_
  refine ev_iload_n (pc := 20) d_Ra_weighTerm_20 rfl ?_
  refine ev_iconst (pc := 21) 0 d_Ra_weighTerm_21 (by decide) ?_
  refine ev_iastore (pc := 22) d_Ra_weighTerm_22 h_r0p10 rfl in22_3 (fun F1_ hF1_ => ?_)
  have g2_ : F1_ r4 = some (.inr (12, [.ref r4_elementData, .int ir4_size, .int ir4_modCount])) := by rw [← hF1_]; exact ev_up_k (ev_ne_oa h_r4 h_r0p10) h_r4
  have g3_ : F1_ r0 = some (.inr (6, [.ref (r0 + 1), .ref (r0 + 10), .int ir0_termCount, .int ir0_weighedCount])) := by rw [← hF1_]; exact ev_up_k (ev_ne_oa h_r0 h_r0p10) h_r0
  have g4_ : F1_ (r0 + 10) = some (.inl (0, 8, .inl (upd r0p10_f i1.toNatClampNeg 0))) := by rw [← hF1_]; exact ev_up_s
  refine ev_iconst (pc := 23) 0 d_Ra_weighTerm_23 (by decide) ?_
  refine ev_istore (pc := 24) d_Ra_weighTerm_24 (Nat.le_of_ble_eq_true rfl) [1, 2, 3, 4, 5, 6, 0] rfl ?_
  exact (by subst hF1_; exact k26_4)

set_option maxRecDepth 100000 in
set_option maxHeartbeats 4000000 in
theorem s_Ra_weighTerm_26 {l : Launch} {X : ev_X} {bc bs n : Nat} {F : ev_H} {Q : Option Value → Nat → ev_H → Prop} {r0 : Nat} {i1 : Int32} {j2 : Int64} {r4 : Nat} {i5 : Int32} {i6 : Int32} {i7 : Int32} {r4_elementData : Nat} {ir4_size : Int32} {ir4_modCount : Int32} {v30 : Int32} {v47 : Nat} {iv47_id : Int32} {v47_terms : Nat} {v58 : Int32} {v73 : Int32} {v79 : Int32} (h_r4 : F r4 = some (.inr (12, [.ref r4_elementData, .int ir4_size, .int ir4_modCount])))
    (c30_0 : Cal l X M_AL_size 0 0 [.ref r4] n F (ev_pure (.int v30) n F))
    (k163_1 : (v30 ≤ i7) → Ev l X M_Ra_weighTerm bc bs 163 [(0, .ref r0), (1, .int i1), (2, .long j2), (4, .ref r4), (5, .int i5), (6, .int i6), (7, .int i7)] [] n F (ev_mq X Q))
    (k163_2 : (¬ v30 ≤ i7) → (12 ≤ i7) → Ev l X M_Ra_weighTerm bc bs 163 [(0, .ref r0), (1, .int i1), (2, .long j2), (4, .ref r4), (5, .int i5), (6, .int i6), (7, .int i7)] [] n F (ev_mq X Q))
    (c47_3 : (¬ v30 ≤ i7) → (¬ 12 ≤ i7) → Cal l X M_AL_get 0 0 [.ref r4, .int i7] n F (ev_pure (.ref v47) n F))
    (hv47_4 : (¬ v30 ≤ i7) → (¬ 12 ≤ i7) → F v47 = some (.inr (8, [.int iv47_id, .ref v47_terms])))
    (c58_5 : (¬ v30 ≤ i7) → (¬ 12 ≤ i7) → Cal l X M_D_timesOf 0 0 [.ref v47, .long j2] n F (ev_pure (.int v58) n F))
    (k90_6 : (¬ v30 ≤ i7) → (¬ 12 ≤ i7) → (i5 ≤ 0) → Ev l X M_Ra_weighTerm bc bs 90 [(0, .ref r0), (1, .int i1), (2, .long j2), (4, .ref r4), (5, .int i5), (6, .int i6), (7, .int i7), (8, .ref v47), (9, .int v58)] [.int 0] n F (ev_mq X Q))
    (c73_7 : (¬ v30 ≤ i7) → (¬ 12 ≤ i7) → (¬ i5 ≤ 0) → Cal l X M_D_length 0 0 [.ref v47] n F (ev_pure (.int v73) n F))
    (c79_8 : (¬ v30 ≤ i7) → (¬ 12 ≤ i7) → (¬ i5 ≤ 0) → Cal l X M_AL_size 0 0 [.ref r4] n F (ev_pure (.int v79) n F))
    (dz85_9 : (¬ v30 ≤ i7) → (¬ 12 ≤ i7) → (¬ i5 ≤ 0) → ¬ i5 = 0)
    (k90_10 : (¬ v30 ≤ i7) → (¬ 12 ≤ i7) → (¬ i5 ≤ 0) → Ev l X M_Ra_weighTerm bc bs 90 [(0, .ref r0), (1, .int i1), (2, .long j2), (4, .ref r4), (5, .int i5), (6, .int i6), (7, .int i7), (8, .ref v47), (9, .int v58)] [.int (((900 * v73) * v79) / i5)] n F (ev_mq X Q)) :
    Ev l X M_Ra_weighTerm bc bs 26 [(0, .ref r0), (1, .int i1), (2, .long j2), (4, .ref r4), (5, .int i5), (6, .int i6), (7, .int i7)] [] n F (ev_mq X Q) := by
  refine ev_iload (pc := 26) d_Ra_weighTerm_26 rfl ?_
  refine ev_aload (pc := 28) d_Ra_weighTerm_28 rfl ?_
  refine ev_invokevirtual (pc := 30) (As := []) (st := [.int i7]) (Q2 := ev_pure (.int v30) n F) (bc1 := 0) (bs1 := 0) M_AL_size rC12 d_Ra_weighTerm_30 lc_Ra_50 wd_469 wd_470 rfl h_r4 rfl rfl (Nat.le_of_ble_eq_true rfl) (Nat.le_of_ble_eq_true rfl) (Nat.le_of_ble_eq_true rfl) (Nat.le_refl _) (Nat.le_refl _) c30_0 ?_
  refine ev_purek ?_
  refine ev_icmp_ge (pc := 33) 163 d_Ra_weighTerm_33 (by decide) (fun c33 => ?_) (fun c33 => ?_)
  · exact (k163_1 c33)
  · refine ev_iload (pc := 36) d_Ra_weighTerm_36 rfl ?_
    refine ev_bipush (pc := 38) 12 d_Ra_weighTerm_38 (by decide) ?_
    refine ev_icmp_ge (pc := 40) 163 d_Ra_weighTerm_40 (by decide) (fun c40 => ?_) (fun c40 => ?_)
    · exact (k163_2 c33 c40)
    · refine ev_aload (pc := 43) d_Ra_weighTerm_43 rfl ?_
      refine ev_iload (pc := 45) d_Ra_weighTerm_45 rfl ?_
      refine ev_invokevirtual (pc := 47) (As := [.int i7]) (st := []) (Q2 := ev_pure (.ref v47) n F) (bc1 := 0) (bs1 := 0) M_AL_get rC12 d_Ra_weighTerm_47 lc_Ra_63 wd_473 wd_474 rfl h_r4 rfl rfl (Nat.le_of_ble_eq_true rfl) (Nat.le_of_ble_eq_true rfl) (Nat.le_of_ble_eq_true rfl) (Nat.le_refl _) (Nat.le_refl _) (c47_3 c33 c40) ?_
      refine ev_purek ?_
      refine ev_checkcast (pc := 50) rC8 d_Ra_weighTerm_50 wd_818 wd_1203 rfl (hv47_4 c33 c40) ?_
      refine ev_astore (pc := 53) d_Ra_weighTerm_53 (Nat.le_of_ble_eq_true rfl) [1, 2, 3, 4, 5, 6, 7, 0] rfl ?_
      refine ev_aload (pc := 55) d_Ra_weighTerm_55 rfl ?_
      refine ev_lload_n (pc := 57) d_Ra_weighTerm_57 rfl ?_
      refine ev_invokevirtual (pc := 58) (As := [.long j2]) (st := []) (Q2 := ev_pure (.int v58) n F) (bc1 := 0) (bs1 := 0) M_D_timesOf rC8 d_Ra_weighTerm_58 lc_Ra_69 wd_820 wd_821 rfl (hv47_4 c33 c40) rfl rfl (Nat.le_of_ble_eq_true rfl) (Nat.le_of_ble_eq_true rfl) (Nat.le_of_ble_eq_true rfl) (Nat.le_refl _) (Nat.le_refl _) (c58_5 c33 c40) ?_
      refine ev_purek ?_
      refine ev_istore (pc := 61) d_Ra_weighTerm_61 (Nat.le_of_ble_eq_true rfl) [1, 2, 3, 4, 5, 6, 7, 8, 0] rfl ?_
      refine ev_iload (pc := 63) d_Ra_weighTerm_63 rfl ?_
      refine ev_if_le (pc := 65) 89 d_Ra_weighTerm_65 (by decide) (fun c65 => ?_) (fun c65 => ?_)
      · refine ev_iconst (pc := 89) 0 d_Ra_weighTerm_89 (by decide) ?_
        exact (k90_6 c33 c40 c65)
      · refine ev_sipush (pc := 68) 900 d_Ra_weighTerm_68 (by decide) ?_
        refine ev_aload (pc := 71) d_Ra_weighTerm_71 rfl ?_
        refine ev_invokevirtual (pc := 73) (As := []) (st := [.int 900]) (Q2 := ev_pure (.int v73) n F) (bc1 := 0) (bs1 := 0) M_D_length rC8 d_Ra_weighTerm_73 lc_Ra_73 wd_801 wd_802 rfl (hv47_4 c33 c40) rfl rfl (Nat.le_of_ble_eq_true rfl) (Nat.le_of_ble_eq_true rfl) (Nat.le_of_ble_eq_true rfl) (Nat.le_refl _) (Nat.le_refl _) (c73_7 c33 c40 c65) ?_
        refine ev_purek ?_
        refine ev_imul (pc := 76) d_Ra_weighTerm_76 ?_
        refine ev_aload (pc := 77) d_Ra_weighTerm_77 rfl ?_
        refine ev_invokevirtual (pc := 79) (As := []) (st := [.int (900 * v73)]) (Q2 := ev_pure (.int v79) n F) (bc1 := 0) (bs1 := 0) M_AL_size rC12 d_Ra_weighTerm_79 lc_Ra_50 wd_469 wd_470 rfl h_r4 rfl rfl (Nat.le_of_ble_eq_true rfl) (Nat.le_of_ble_eq_true rfl) (Nat.le_of_ble_eq_true rfl) (Nat.le_refl _) (Nat.le_refl _) (c79_8 c33 c40 c65) ?_
        refine ev_purek ?_
        refine ev_imul (pc := 82) d_Ra_weighTerm_82 ?_
        refine ev_iload (pc := 83) d_Ra_weighTerm_83 rfl ?_
        refine ev_idiv (pc := 85) d_Ra_weighTerm_85 (dz85_9 c33 c40 c65) ?_
        refine ev_goto (pc := 86) 90 d_Ra_weighTerm_86 (by decide) ?_
        exact (k90_10 c33 c40 c65)

set_option maxRecDepth 100000 in
set_option maxHeartbeats 4000000 in
theorem s_Ra_weighTerm_90 {l : Launch} {X : ev_X} {bc bs n : Nat} {F : ev_H} {Q : Option Value → Nat → ev_H → Prop} {r0 : Nat} {i1 : Int32} {j2 : Int64} {r4 : Nat} {i5 : Int32} {i6 : Int32} {i7 : Int32} {r8 : Nat} {i9 : Int32} {is0 : Int32} {ir0_termCount : Int32} {ir0_weighedCount : Int32} {r0p1_f : Nat → Option Nat} {x97 : Nat} (h_r0 : F r0 = some (.inr (6, [.ref (r0 + 1), .ref (r0 + 10), .int ir0_termCount, .int ir0_weighedCount]))) (h_r0p1 : F (r0 + 1) = some (.inl (6, 8, .inr (.inr (.inr (.inr r0p1_f))))))
    (in97_0 : vp_in i1 8)
    (e97_1 : r0p1_f i1.toNatClampNeg = some x97)
    (k132_2 : (i9 ≤ 0) → Ev l X M_Ra_weighTerm bc bs 132 [(0, .ref r0), (1, .int i1), (2, .long j2), (4, .ref r4), (5, .int i5), (6, .int i6), (7, .int i7), (8, .ref r8), (9, .int i9), (10, .int is0)] [.int (-1), .int i7, .ref x97] n F (ev_mq X Q))
    (dz127_3 : (¬ i9 ≤ 0) → ¬ (((1000 * i9) + 300) + is0) = 0)
    (k132_4 : (¬ i9 ≤ 0) → Ev l X M_Ra_weighTerm bc bs 132 [(0, .ref r0), (1, .int i1), (2, .long j2), (4, .ref r4), (5, .int i5), (6, .int i6), (7, .int i7), (8, .ref r8), (9, .int i9), (10, .int is0)] [.int (((i6 * i9) * 2200) / (((1000 * i9) + 300) + is0)), .int i7, .ref x97] n F (ev_mq X Q)) :
    Ev l X M_Ra_weighTerm bc bs 90 [(0, .ref r0), (1, .int i1), (2, .long j2), (4, .ref r4), (5, .int i5), (6, .int i6), (7, .int i7), (8, .ref r8), (9, .int i9)] [.int is0] n F (ev_mq X Q) := by
  refine ev_istore (pc := 90) d_Ra_weighTerm_90 (Nat.le_of_ble_eq_true rfl) [1, 2, 3, 4, 5, 6, 7, 8, 9, 0] rfl ?_
  refine ev_aload_n (pc := 92) d_Ra_weighTerm_92 rfl ?_
  refine ev_getfield (pc := 93) 0 d_Ra_weighTerm_93 fl_Ra_11 h_r0 rfl ?_
  refine ev_iload_n (pc := 96) d_Ra_weighTerm_96 rfl ?_
  refine ev_aaload (pc := 97) d_Ra_weighTerm_97 h_r0p1 rfl rfl in97_0 ?_
  refine ev_rf e97_1 ?_
  refine ev_iload (pc := 98) d_Ra_weighTerm_98 rfl ?_
  refine ev_iload (pc := 100) d_Ra_weighTerm_100 rfl ?_
  refine ev_if_le (pc := 102) 131 d_Ra_weighTerm_102 (by decide) (fun c102 => ?_) (fun c102 => ?_)
  · refine ev_iconst (pc := 131) (-1) d_Ra_weighTerm_131 (by decide) ?_
    exact (k132_2 c102)
  · refine ev_iload (pc := 105) d_Ra_weighTerm_105 rfl ?_
    refine ev_iload (pc := 107) d_Ra_weighTerm_107 rfl ?_
    refine ev_imul (pc := 109) d_Ra_weighTerm_109 ?_
    refine ev_sipush (pc := 110) 2200 d_Ra_weighTerm_110 (by decide) ?_
    refine ev_imul (pc := 113) d_Ra_weighTerm_113 ?_
    refine ev_sipush (pc := 114) 1000 d_Ra_weighTerm_114 (by decide) ?_
    refine ev_iload (pc := 117) d_Ra_weighTerm_117 rfl ?_
    refine ev_imul (pc := 119) d_Ra_weighTerm_119 ?_
    refine ev_sipush (pc := 120) 300 d_Ra_weighTerm_120 (by decide) ?_
    refine ev_iadd (pc := 123) d_Ra_weighTerm_123 ?_
    refine ev_iload (pc := 124) d_Ra_weighTerm_124 rfl ?_
    refine ev_iadd (pc := 126) d_Ra_weighTerm_126 ?_
    refine ev_idiv (pc := 127) d_Ra_weighTerm_127 (dz127_3 c102) ?_
    refine ev_goto (pc := 128) 132 d_Ra_weighTerm_128 (by decide) ?_
    exact (k132_4 c102)

set_option maxRecDepth 100000 in
set_option maxHeartbeats 4000000 in
theorem s_Ra_weighTerm_132 {l : Launch} {X : ev_X} {bc bs n : Nat} {F : ev_H} {Q : Option Value → Nat → ev_H → Prop} {r0 : Nat} {i1 : Int32} {j2 : Int64} {r4 : Nat} {i5 : Int32} {i6 : Int32} {i7 : Int32} {r8 : Nat} {i9 : Int32} {i10 : Int32} {rs0 : Nat} {is1 : Int32} {is2 : Int32} {rs0_n : Nat} {rs0_f : Nat → Int32} {ir0_termCount : Int32} {ir0_weighedCount : Int32} {r0p10_f : Nat → Int32} {r0p1_f : Nat → Option Nat} {x149 : Nat} {x149_n : Nat} {x149_f : Nat → Int32} (h_rs0 : F rs0 = some (.inl (0, rs0_n, .inl rs0_f))) (h_r0 : F r0 = some (.inr (6, [.ref (r0 + 1), .ref (r0 + 10), .int ir0_termCount, .int ir0_weighedCount]))) (h_r0p10 : F (r0 + 10) = some (.inl (0, 8, .inl r0p10_f))) (ne_r0p10_rs0 : (r0 + 10) ≠ rs0) (h_r0p1 : F (r0 + 1) = some (.inl (6, 8, .inr (.inr (.inr (.inr r0p1_f)))))) (h_x149 : F x149 = some (.inl (0, x149_n, .inl x149_f))) (ne_x149_rs0 : x149 ≠ rs0) (ne_rs0_r0p10 : rs0 ≠ (r0 + 10)) (ne_x149_r0p10 : x149 ≠ (r0 + 10))
    (in132_0 : vp_in is1 rs0_n)
    (in143_1 : vp_in i1 8)
    (in149_2 : vp_in i1 8)
    (e149_3 : r0p1_f i1.toNatClampNeg = some x149)
    (in152_4 : vp_in i7 x149_n)
    (in156_5 : vp_in i1 8)
    (k26_6 : Ev l X M_Ra_weighTerm bc bs 26 [(0, .ref r0), (1, .int i1), (2, .long j2), (4, .ref r4), (5, .int i5), (6, .int i6), (7, .int (i7 + 1))] [] n (ev_up (ev_up F rs0 (.inl (0, rs0_n, .inl (upd rs0_f is1.toNatClampNeg is2)))) (r0 + 10) (.inl (0, 8, .inl (upd r0p10_f i1.toNatClampNeg (if (r0p10_f i1.toNatClampNeg) < (x149_f i7.toNatClampNeg) then x149_f i7.toNatClampNeg else r0p10_f i1.toNatClampNeg))))) (ev_mq X Q)) :
    Ev l X M_Ra_weighTerm bc bs 132 [(0, .ref r0), (1, .int i1), (2, .long j2), (4, .ref r4), (5, .int i5), (6, .int i6), (7, .int i7), (8, .ref r8), (9, .int i9), (10, .int i10)] [.int is2, .int is1, .ref rs0] n F (ev_mq X Q) := by
  refine ev_iastore (pc := 132) d_Ra_weighTerm_132 h_rs0 rfl in132_0 (fun F1_ hF1_ => ?_)
  have g2_ : F1_ rs0 = some (.inl (0, rs0_n, .inl (upd rs0_f is1.toNatClampNeg is2))) := by rw [← hF1_]; exact ev_up_s
  refine ev_aload_n (pc := 133) d_Ra_weighTerm_133 rfl ?_
  have g3_ : F1_ r0 = some (.inr (6, [.ref (r0 + 1), .ref (r0 + 10), .int ir0_termCount, .int ir0_weighedCount])) := by rw [← hF1_]; exact ev_up_k (ev_ne_oa h_r0 h_rs0) h_r0
  refine ev_getfield (pc := 134) 1 d_Ra_weighTerm_134 fl_Ra_16 g3_ rfl ?_
  refine ev_iload_n (pc := 137) d_Ra_weighTerm_137 rfl ?_
  refine ev_aload_n (pc := 138) d_Ra_weighTerm_138 rfl ?_
  refine ev_getfield (pc := 139) 1 d_Ra_weighTerm_139 fl_Ra_16 g3_ rfl ?_
  refine ev_iload_n (pc := 142) d_Ra_weighTerm_142 rfl ?_
  have g4_ : F1_ (r0 + 10) = some (.inl (0, 8, .inl r0p10_f)) := by rw [← hF1_]; exact ev_up_k ne_r0p10_rs0 h_r0p10
  refine ev_iaload (pc := 143) d_Ra_weighTerm_143 g4_ rfl in143_1 ?_
  refine ev_aload_n (pc := 144) d_Ra_weighTerm_144 rfl ?_
  refine ev_getfield (pc := 145) 0 d_Ra_weighTerm_145 fl_Ra_11 g3_ rfl ?_
  refine ev_iload_n (pc := 148) d_Ra_weighTerm_148 rfl ?_
  have g5_ : F1_ (r0 + 1) = some (.inl (6, 8, .inr (.inr (.inr (.inr r0p1_f))))) := by rw [← hF1_]; exact ev_up_k (ev_ne_aa h_r0p1 h_rs0 rfl) h_r0p1
  refine ev_aaload (pc := 149) d_Ra_weighTerm_149 g5_ rfl rfl in149_2 ?_
  refine ev_rf e149_3 ?_
  refine ev_iload (pc := 150) d_Ra_weighTerm_150 rfl ?_
  have g6_ : F1_ x149 = some (.inl (0, x149_n, .inl x149_f)) := by rw [← hF1_]; exact ev_up_k ne_x149_rs0 h_x149
  refine ev_iaload (pc := 152) d_Ra_weighTerm_152 g6_ rfl in152_4 ?_
  refine ev_mmax (pc := 153) d_Ra_weighTerm_153 wd_827 wd_275 wd_15 wd_276 (Nat.le_of_ble_eq_true rfl) (Nat.le_of_ble_eq_true rfl) ?_
  refine ev_iastore (pc := 156) d_Ra_weighTerm_156 g4_ rfl in156_5 (fun F7_ hF7_ => ?_)
  have g8_ : F7_ rs0 = some (.inl (0, rs0_n, .inl (upd rs0_f is1.toNatClampNeg is2))) := by rw [← hF7_]; exact ev_up_k ne_rs0_r0p10 g2_
  have g9_ : F7_ r0 = some (.inr (6, [.ref (r0 + 1), .ref (r0 + 10), .int ir0_termCount, .int ir0_weighedCount])) := by rw [← hF7_]; exact ev_up_k (ev_ne_oa g3_ g4_) g3_
  have g10_ : F7_ (r0 + 1) = some (.inl (6, 8, .inr (.inr (.inr (.inr r0p1_f))))) := by rw [← hF7_]; exact ev_up_k (ev_ne_aa g5_ g4_ rfl) g5_
  have g11_ : F7_ x149 = some (.inl (0, x149_n, .inl x149_f)) := by rw [← hF7_]; exact ev_up_k ne_x149_r0p10 g6_
  have g12_ : F7_ (r0 + 10) = some (.inl (0, 8, .inl (upd r0p10_f i1.toNatClampNeg (if (r0p10_f i1.toNatClampNeg) < (x149_f i7.toNatClampNeg) then x149_f i7.toNatClampNeg else r0p10_f i1.toNatClampNeg)))) := by rw [← hF7_]; exact ev_up_s
  refine ev_iinc (pc := 157) 6 1 d_Ra_weighTerm_157 rfl (by decide) (Nat.le_of_ble_eq_true rfl) [1, 2, 3, 4, 5, 6, 0, 7, 8, 9] rfl ?_
  refine ev_goto (pc := 160) 26 d_Ra_weighTerm_160 (by decide) ?_
  exact Ev.sub [0, 1, 2, 3, 4, 5, 6] rfl (by subst hF1_ hF7_; exact k26_6)

set_option maxRecDepth 100000 in
set_option maxHeartbeats 4000000 in
theorem s_Ra_weighTerm_163 {l : Launch} {X : ev_X} {bc bs n : Nat} {F : ev_H} {Q : Option Value → Nat → ev_H → Prop} {r0 : Nat} {i1 : Int32} {j2 : Int64} {r4 : Nat} {i5 : Int32} {i6 : Int32} {i7 : Int32} 
    (q163_0 : Q none n F) :
    Ev l X M_Ra_weighTerm bc bs 163 [(0, .ref r0), (1, .int i1), (2, .long j2), (4, .ref r4), (5, .int i5), (6, .int i6), (7, .int i7)] [] n F (ev_mq X Q) := by
  exact ev_return (pc := 163) d_Ra_weighTerm_163 rfl q163_0
set_option maxRecDepth 100000 in
set_option maxHeartbeats 4000000 in
theorem s_Ra_holders_0 {l : Launch} {X : ev_X} {bc bs n : Nat} {F : ev_H} {Q : Option Value → Nat → ev_H → Prop} {j0 : Int64} {r2 : Nat} 
    (k5_0 : Ev l X M_Ra_holders bc bs 5 [(0, .long j0), (2, .ref r2), (3, .int 0), (4, .int 0)] [] n F (ev_mq X Q)) :
    Ev l X M_Ra_holders bc bs 0 [(0, .long j0), (2, .ref r2)] [] n F (ev_mq X Q) := by
  refine ev_iconst (pc := 0) 0 d_Ra_holders_0 (by decide) ?_
  refine ev_istore_n (pc := 1) d_Ra_holders_1 (Nat.le_of_ble_eq_true rfl) [1, 2, 0] rfl ?_
  refine ev_iconst (pc := 2) 0 d_Ra_holders_2 (by decide) ?_
  refine ev_istore (pc := 3) d_Ra_holders_3 (Nat.le_of_ble_eq_true rfl) [1, 2, 3, 0] rfl ?_
  exact k5_0

set_option maxRecDepth 100000 in
set_option maxHeartbeats 4000000 in
theorem s_Ra_holders_5 {l : Launch} {X : ev_X} {bc bs n : Nat} {F : ev_H} {Q : Option Value → Nat → ev_H → Prop} {j0 : Int64} {r2 : Nat} {i3 : Int32} {i4 : Int32} {r2_elementData : Nat} {ir2_size : Int32} {ir2_modCount : Int32} {v8 : Int32} {v17 : Nat} {iv17_id : Int32} {v17_terms : Nat} {v24 : Int32} (h_r2 : F r2 = some (.inr (12, [.ref r2_elementData, .int ir2_size, .int ir2_modCount])))
    (c8_0 : Cal l X M_AL_size 0 0 [.ref r2] n F (ev_pure (.int v8) n F))
    (q40_1 : (v8 ≤ i4) → Q (some (.int i3)) n F)
    (c17_2 : (¬ v8 ≤ i4) → Cal l X M_AL_get 0 0 [.ref r2, .int i4] n F (ev_pure (.ref v17) n F))
    (hv17_3 : (¬ v8 ≤ i4) → F v17 = some (.inr (8, [.int iv17_id, .ref v17_terms])))
    (c24_4 : (¬ v8 ≤ i4) → Cal l X M_D_timesOf 0 0 [.ref v17, .long j0] n F (ev_pure (.int v24) n F))
    (k5_5 : (¬ v8 ≤ i4) → (v24 ≤ 0) → Ev l X M_Ra_holders bc bs 5 [(0, .long j0), (2, .ref r2), (3, .int i3), (4, .int (i4 + 1))] [] n F (ev_mq X Q))
    (k5_6 : (¬ v8 ≤ i4) → (¬ v24 ≤ 0) → Ev l X M_Ra_holders bc bs 5 [(0, .long j0), (2, .ref r2), (3, .int (i3 + 1)), (4, .int (i4 + 1))] [] n F (ev_mq X Q)) :
    Ev l X M_Ra_holders bc bs 5 [(0, .long j0), (2, .ref r2), (3, .int i3), (4, .int i4)] [] n F (ev_mq X Q) := by
  refine ev_iload (pc := 5) d_Ra_holders_5 rfl ?_
  refine ev_aload_n (pc := 7) d_Ra_holders_7 rfl ?_
  refine ev_invokevirtual (pc := 8) (As := []) (st := [.int i4]) (Q2 := ev_pure (.int v8) n F) (bc1 := 0) (bs1 := 0) M_AL_size rC12 d_Ra_holders_8 lc_Ra_50 wd_469 wd_470 rfl h_r2 rfl rfl (Nat.le_of_ble_eq_true rfl) (Nat.le_of_ble_eq_true rfl) (Nat.le_of_ble_eq_true rfl) (Nat.le_refl _) (Nat.le_refl _) c8_0 ?_
  refine ev_purek ?_
  refine ev_icmp_ge (pc := 11) 39 d_Ra_holders_11 (by decide) (fun c11 => ?_) (fun c11 => ?_)
  · refine ev_iload_n (pc := 39) d_Ra_holders_39 rfl ?_
    exact ev_ireturn (pc := 40) d_Ra_holders_40 rfl rfl (q40_1 c11)
  · refine ev_aload_n (pc := 14) d_Ra_holders_14 rfl ?_
    refine ev_iload (pc := 15) d_Ra_holders_15 rfl ?_
    refine ev_invokevirtual (pc := 17) (As := [.int i4]) (st := []) (Q2 := ev_pure (.ref v17) n F) (bc1 := 0) (bs1 := 0) M_AL_get rC12 d_Ra_holders_17 lc_Ra_63 wd_473 wd_474 rfl h_r2 rfl rfl (Nat.le_of_ble_eq_true rfl) (Nat.le_of_ble_eq_true rfl) (Nat.le_of_ble_eq_true rfl) (Nat.le_refl _) (Nat.le_refl _) (c17_2 c11) ?_
    refine ev_purek ?_
    refine ev_checkcast (pc := 20) rC8 d_Ra_holders_20 wd_818 wd_1203 rfl (hv17_3 c11) ?_
    refine ev_lload_n (pc := 23) d_Ra_holders_23 rfl ?_
    refine ev_invokevirtual (pc := 24) (As := [.long j0]) (st := []) (Q2 := ev_pure (.int v24) n F) (bc1 := 0) (bs1 := 0) M_D_timesOf rC8 d_Ra_holders_24 lc_Ra_69 wd_820 wd_821 rfl (hv17_3 c11) rfl rfl (Nat.le_of_ble_eq_true rfl) (Nat.le_of_ble_eq_true rfl) (Nat.le_of_ble_eq_true rfl) (Nat.le_refl _) (Nat.le_refl _) (c24_4 c11) ?_
    refine ev_purek ?_
    refine ev_if_le (pc := 27) 33 d_Ra_holders_27 (by decide) (fun c27 => ?_) (fun c27 => ?_)
    · refine ev_iinc (pc := 33) 3 1 d_Ra_holders_33 rfl (by decide) (Nat.le_of_ble_eq_true rfl) [1, 2, 3, 0] rfl ?_
      refine ev_goto (pc := 36) 5 d_Ra_holders_36 (by decide) ?_
      exact (k5_5 c11 c27)
    · refine ev_iinc (pc := 30) 2 1 d_Ra_holders_30 rfl (by decide) (Nat.le_of_ble_eq_true rfl) [1, 2, 0, 3] rfl ?_
      refine ev_iinc (pc := 33) 3 1 d_Ra_holders_33 rfl (by decide) (Nat.le_of_ble_eq_true rfl) [1, 2, 3, 0] rfl ?_
      refine ev_goto (pc := 36) 5 d_Ra_holders_36 (by decide) ?_
      exact (k5_6 c11 c27)
set_option maxRecDepth 100000 in
set_option maxHeartbeats 4000000 in
theorem s_Ra_rarity_0 {l : Launch} {X : ev_X} {bc bs n : Nat} {F : ev_H} {Q : Option Value → Nat → ev_H → Prop} {i0 : Int32} {i1 : Int32} 
    (dz14_0 : (0 < i1) → ¬ i1 = 0)
    (k18_1 : (0 < i1) → Ev l X M_Ra_rarity bc bs 18 [(0, .int i0), (1, .int i1), (2, .int (((i0 + 1) * 256) / i1)), (3, .int 0)] [] n F (ev_mq X Q))
    (q5_2 : (¬ 0 < i1) → Q (some (.int 0)) n F) :
    Ev l X M_Ra_rarity bc bs 0 [(0, .int i0), (1, .int i1)] [] n F (ev_mq X Q) := by
  refine ev_iload_n (pc := 0) d_Ra_rarity_0 rfl ?_
  refine ev_if_gt (pc := 1) 6 d_Ra_rarity_1 (by decide) (fun c1 => ?_) (fun c1 => ?_)
  · refine ev_iload_n (pc := 6) d_Ra_rarity_6 rfl ?_
    refine ev_iconst (pc := 7) 1 d_Ra_rarity_7 (by decide) ?_
    refine ev_iadd (pc := 8) d_Ra_rarity_8 ?_
    refine ev_sipush (pc := 9) 256 d_Ra_rarity_9 (by decide) ?_
    refine ev_imul (pc := 12) d_Ra_rarity_12 ?_
    refine ev_iload_n (pc := 13) d_Ra_rarity_13 rfl ?_
    refine ev_idiv (pc := 14) d_Ra_rarity_14 (dz14_0 c1) ?_
    refine ev_istore_n (pc := 15) d_Ra_rarity_15 (Nat.le_of_ble_eq_true rfl) [1, 2, 0] rfl ?_
    refine ev_iconst (pc := 16) 0 d_Ra_rarity_16 (by decide) ?_
    refine ev_istore_n (pc := 17) d_Ra_rarity_17 (Nat.le_of_ble_eq_true rfl) [1, 2, 3, 0] rfl ?_
    exact (k18_1 c1)
  · refine ev_iconst (pc := 4) 0 d_Ra_rarity_4 (by decide) ?_
    exact ev_ireturn (pc := 5) d_Ra_rarity_5 rfl rfl (q5_2 c1)

set_option maxRecDepth 100000 in
set_option maxHeartbeats 4000000 in
theorem s_Ra_rarity_18 {l : Launch} {X : ev_X} {bc bs n : Nat} {F : ev_H} {Q : Option Value → Nat → ev_H → Prop} {i0 : Int32} {i1 : Int32} {i2 : Int32} {i3 : Int32} 
    (q52_0 : (30 ≤ i3) → Q (some (.int (((16 * i3) + ((i2 * 16) >>> (i3 &&& 31))) - 16))) n F)
    (q52_1 : (¬ 30 ≤ i3) → ((i2 >>> ((i3 + 1) &&& 31)) ≤ 0) → Q (some (.int (((16 * i3) + ((i2 * 16) >>> (i3 &&& 31))) - 16))) n F)
    (k18_2 : (¬ 30 ≤ i3) → (¬ (i2 >>> ((i3 + 1) &&& 31)) ≤ 0) → Ev l X M_Ra_rarity bc bs 18 [(0, .int i0), (1, .int i1), (2, .int i2), (3, .int (i3 + 1))] [] n F (ev_mq X Q)) :
    Ev l X M_Ra_rarity bc bs 18 [(0, .int i0), (1, .int i1), (2, .int i2), (3, .int i3)] [] n F (ev_mq X Q) := by
  refine ev_iload_n (pc := 18) d_Ra_rarity_18 rfl ?_
  refine ev_bipush (pc := 19) 30 d_Ra_rarity_19 (by decide) ?_
  refine ev_icmp_ge (pc := 21) 38 d_Ra_rarity_21 (by decide) (fun c21 => ?_) (fun c21 => ?_)
  · refine ev_bipush (pc := 38) 16 d_Ra_rarity_38 (by decide) ?_
    refine ev_iload_n (pc := 40) d_Ra_rarity_40 rfl ?_
    refine ev_imul (pc := 41) d_Ra_rarity_41 ?_
    refine ev_iload_n (pc := 42) d_Ra_rarity_42 rfl ?_
    refine ev_bipush (pc := 43) 16 d_Ra_rarity_43 (by decide) ?_
    refine ev_imul (pc := 45) d_Ra_rarity_45 ?_
    refine ev_iload_n (pc := 46) d_Ra_rarity_46 rfl ?_
    refine ev_ishr (pc := 47) d_Ra_rarity_47 ?_
    refine ev_iadd (pc := 48) d_Ra_rarity_48 ?_
    refine ev_bipush (pc := 49) 16 d_Ra_rarity_49 (by decide) ?_
    refine ev_isub (pc := 51) d_Ra_rarity_51 ?_
    exact ev_ireturn (pc := 52) d_Ra_rarity_52 rfl rfl (q52_0 c21)
  · refine ev_iload_n (pc := 24) d_Ra_rarity_24 rfl ?_
    refine ev_iload_n (pc := 25) d_Ra_rarity_25 rfl ?_
    refine ev_iconst (pc := 26) 1 d_Ra_rarity_26 (by decide) ?_
    refine ev_iadd (pc := 27) d_Ra_rarity_27 ?_
    refine ev_ishr (pc := 28) d_Ra_rarity_28 ?_
    refine ev_if_le (pc := 29) 38 d_Ra_rarity_29 (by decide) (fun c29 => ?_) (fun c29 => ?_)
    · refine ev_bipush (pc := 38) 16 d_Ra_rarity_38 (by decide) ?_
      refine ev_iload_n (pc := 40) d_Ra_rarity_40 rfl ?_
      refine ev_imul (pc := 41) d_Ra_rarity_41 ?_
      refine ev_iload_n (pc := 42) d_Ra_rarity_42 rfl ?_
      refine ev_bipush (pc := 43) 16 d_Ra_rarity_43 (by decide) ?_
      refine ev_imul (pc := 45) d_Ra_rarity_45 ?_
      refine ev_iload_n (pc := 46) d_Ra_rarity_46 rfl ?_
      refine ev_ishr (pc := 47) d_Ra_rarity_47 ?_
      refine ev_iadd (pc := 48) d_Ra_rarity_48 ?_
      refine ev_bipush (pc := 49) 16 d_Ra_rarity_49 (by decide) ?_
      refine ev_isub (pc := 51) d_Ra_rarity_51 ?_
      exact ev_ireturn (pc := 52) d_Ra_rarity_52 rfl rfl (q52_1 c21 c29)
    · refine ev_iinc (pc := 32) 3 1 d_Ra_rarity_32 rfl (by decide) (Nat.le_of_ble_eq_true rfl) [1, 2, 3, 0] rfl ?_
      refine ev_goto (pc := 35) 18 d_Ra_rarity_35 (by decide) ?_
      exact (k18_2 c21 c29)
set_option maxRecDepth 100000 in
set_option maxHeartbeats 4000000 in
theorem s_Ra_chooseBest_0 {l : Launch} {X : ev_X} {bc bs n : Nat} {F : ev_H} {Q : Option Value → Nat → ev_H → Prop} {r0 : Nat} {i1 : Int32} {r2 : Nat} {r3 : Nat} 
    (k3_0 : Ev l X M_Ra_chooseBest bc bs 3 [(0, .ref r0), (1, .int i1), (2, .ref r2), (3, .ref r3), (4, .int 0)] [] n F (ev_mq X Q)) :
    Ev l X M_Ra_chooseBest bc bs 0 [(0, .ref r0), (1, .int i1), (2, .ref r2), (3, .ref r3)] [] n F (ev_mq X Q) := by
  refine ev_iconst (pc := 0) 0 d_Ra_chooseBest_0 (by decide) ?_
  refine ev_istore (pc := 1) d_Ra_chooseBest_1 (Nat.le_of_ble_eq_true rfl) [1, 2, 3, 4, 0] rfl ?_
  exact k3_0

set_option maxRecDepth 100000 in
set_option maxHeartbeats 4000000 in
theorem s_Ra_chooseBest_3 {l : Launch} {X : ev_X} {bc bs n : Nat} {F : ev_H} {Q : Option Value → Nat → ev_H → Prop} {r0 : Nat} {i1 : Int32} {r2 : Nat} {r3 : Nat} {i4 : Int32} {r2_elementData : Nat} {ir2_size : Int32} {ir2_modCount : Int32} {v6 : Int32} {ir0_termCount : Int32} {ir0_weighedCount : Int32} {v22 : Int32} {v39 : Int32} {ir3_count : Int32} {v43 : Int32} (h_r2 : F r2 = some (.inr (12, [.ref r2_elementData, .int ir2_size, .int ir2_modCount]))) (h_r0 : F r0 = some (.inr (6, [.ref (r0 + 1), .ref (r0 + 10), .int ir0_termCount, .int ir0_weighedCount]))) (h_r3 : F r3 = some (.inr (7, [.ref (r3 + 1), .ref (r3 + 2), .int ir3_count])))
    (c6_0 : Cal l X M_AL_size 0 0 [.ref r2] n F (ev_pure (.int v6) n F))
    (q88_1 : (v6 ≤ i4) → Q none n F)
    (q88_2 : (¬ v6 ≤ i4) → (12 ≤ i4) → Q none n F)
    (c22_3 : (¬ v6 ≤ i4) → (¬ 12 ≤ i4) → Cal l X M_Ra_hasTermOfBag 0 0 [.ref r0, .int i4] n F (ev_pure (.int v22) n F))
    (k82_4 : (¬ v6 ≤ i4) → (¬ 12 ≤ i4) → (v22 = 0) → Ev l X M_Ra_chooseBest bc bs 82 [(0, .ref r0), (1, .int i1), (2, .ref r2), (3, .ref r3), (4, .int i4)] [] n F (ev_mq X Q))
    (k49_5 : (¬ v6 ≤ i4) → (¬ 12 ≤ i4) → (¬ v22 = 0) → (ir0_weighedCount < i1) → Ev l X M_Ra_chooseBest bc bs 49 [(0, .ref r0), (1, .int i1), (2, .ref r2), (3, .ref r3), (4, .int i4)] [] n F (ev_mq X Q))
    (c39_6 : (¬ v6 ≤ i4) → (¬ 12 ≤ i4) → (¬ v22 = 0) → (¬ ir0_weighedCount < i1) → Cal l X M_Ra_boundOf 0 0 [.ref r0, .int i4] n F (ev_pure (.int v39) n F))
    (c43_7 : (¬ v6 ≤ i4) → (¬ 12 ≤ i4) → (¬ v22 = 0) → (¬ ir0_weighedCount < i1) → Cal l X M_Re_leastWeight 0 0 [.ref r3] n F (ev_pure (.int v43) n F))
    (k82_8 : (¬ v6 ≤ i4) → (¬ 12 ≤ i4) → (¬ v22 = 0) → (¬ ir0_weighedCount < i1) → (v39 ≤ v43) → Ev l X M_Ra_chooseBest bc bs 82 [(0, .ref r0), (1, .int i1), (2, .ref r2), (3, .ref r3), (4, .int i4)] [] n F (ev_mq X Q))
    (k49_9 : (¬ v6 ≤ i4) → (¬ 12 ≤ i4) → (¬ v22 = 0) → (¬ ir0_weighedCount < i1) → (¬ v39 ≤ v43) → Ev l X M_Ra_chooseBest bc bs 49 [(0, .ref r0), (1, .int i1), (2, .ref r2), (3, .ref r3), (4, .int i4)] [] n F (ev_mq X Q)) :
    Ev l X M_Ra_chooseBest bc bs 3 [(0, .ref r0), (1, .int i1), (2, .ref r2), (3, .ref r3), (4, .int i4)] [] n F (ev_mq X Q) := by
  refine ev_iload (pc := 3) d_Ra_chooseBest_3 rfl ?_
  refine ev_aload_n (pc := 5) d_Ra_chooseBest_5 rfl ?_
  refine ev_invokevirtual (pc := 6) (As := []) (st := [.int i4]) (Q2 := ev_pure (.int v6) n F) (bc1 := 0) (bs1 := 0) M_AL_size rC12 d_Ra_chooseBest_6 lc_Ra_50 wd_469 wd_470 rfl h_r2 rfl rfl (Nat.le_of_ble_eq_true rfl) (Nat.le_of_ble_eq_true rfl) (Nat.le_of_ble_eq_true rfl) (Nat.le_refl _) (Nat.le_refl _) c6_0 ?_
  refine ev_purek ?_
  refine ev_icmp_ge (pc := 9) 88 d_Ra_chooseBest_9 (by decide) (fun c9 => ?_) (fun c9 => ?_)
  · exact ev_return (pc := 88) d_Ra_chooseBest_88 rfl (q88_1 c9)
  · refine ev_iload (pc := 12) d_Ra_chooseBest_12 rfl ?_
    refine ev_bipush (pc := 14) 12 d_Ra_chooseBest_14 (by decide) ?_
    refine ev_icmp_ge (pc := 16) 88 d_Ra_chooseBest_16 (by decide) (fun c16 => ?_) (fun c16 => ?_)
    · exact ev_return (pc := 88) d_Ra_chooseBest_88 rfl (q88_2 c9 c16)
    · refine ev_aload_n (pc := 19) d_Ra_chooseBest_19 rfl ?_
      refine ev_iload (pc := 20) d_Ra_chooseBest_20 rfl ?_
      refine ev_invokevirtual (pc := 22) (As := [.int i4]) (st := []) (Q2 := ev_pure (.int v22) n F) (bc1 := 0) (bs1 := 0) M_Ra_hasTermOfBag rC6 d_Ra_chooseBest_22 lc_Ra_79 wd_834 wd_s28 rfl h_r0 rfl rfl (Nat.le_of_ble_eq_true rfl) (Nat.le_of_ble_eq_true rfl) (Nat.le_of_ble_eq_true rfl) (Nat.le_refl _) (Nat.le_refl _) (c22_3 c9 c16) ?_
      refine ev_purek ?_
      refine ev_if_eq (pc := 25) 82 d_Ra_chooseBest_25 (by decide) (fun c25 => ?_) (fun c25 => ?_)
      · exact (k82_4 c9 c16 c25)
      · refine ev_aload_n (pc := 28) d_Ra_chooseBest_28 rfl ?_
        refine ev_getfield (pc := 29) 3 d_Ra_chooseBest_29 fl_Ra_24 h_r0 rfl ?_
        refine ev_iload_n (pc := 32) d_Ra_chooseBest_32 rfl ?_
        refine ev_icmp_lt (pc := 33) 49 d_Ra_chooseBest_33 (by decide) (fun c33 => ?_) (fun c33 => ?_)
        · exact (k49_5 c9 c16 c25 c33)
        · refine ev_aload_n (pc := 36) d_Ra_chooseBest_36 rfl ?_
          refine ev_iload (pc := 37) d_Ra_chooseBest_37 rfl ?_
          refine ev_invokevirtual (pc := 39) (As := [.int i4]) (st := []) (Q2 := ev_pure (.int v39) n F) (bc1 := 0) (bs1 := 0) M_Ra_boundOf rC6 d_Ra_chooseBest_39 lc_Ra_83 wd_838 wd_s29 rfl h_r0 rfl rfl (Nat.le_of_ble_eq_true rfl) (Nat.le_of_ble_eq_true rfl) (Nat.le_of_ble_eq_true rfl) (Nat.le_refl _) (Nat.le_refl _) (c39_6 c9 c16 c25 c33) ?_
          refine ev_purek ?_
          refine ev_aload_n (pc := 42) d_Ra_chooseBest_42 rfl ?_
          refine ev_invokevirtual (pc := 43) (As := []) (st := [.int v39]) (Q2 := ev_pure (.int v43) n F) (bc1 := 0) (bs1 := 0) M_Re_leastWeight rC7 d_Ra_chooseBest_43 lc_Ra_87 wd_841 wd_842 rfl h_r3 rfl rfl (Nat.le_of_ble_eq_true rfl) (Nat.le_of_ble_eq_true rfl) (Nat.le_of_ble_eq_true rfl) (Nat.le_refl _) (Nat.le_refl _) (c43_7 c9 c16 c25 c33) ?_
          refine ev_purek ?_
          refine ev_icmp_le (pc := 46) 82 d_Ra_chooseBest_46 (by decide) (fun c46 => ?_) (fun c46 => ?_)
          · exact (k82_8 c9 c16 c25 c33 c46)
          · exact (k49_9 c9 c16 c25 c33 c46)

set_option maxRecDepth 100000 in
set_option maxHeartbeats 4000000 in
theorem s_Ra_chooseBest_49 {l : Launch} {X : ev_X} {bc bs n : Nat} {F : ev_H} {Q : Option Value → Nat → ev_H → Prop} {r0 : Nat} {i1 : Int32} {r2 : Nat} {r3 : Nat} {i4 : Int32} {ir0_termCount : Int32} {ir0_weighedCount : Int32} {r2_elementData : Nat} {ir2_size : Int32} {ir2_modCount : Int32} {v63 : Nat} {iv63_id : Int32} {v63_terms : Nat} {v75 : Int32} {ir3_count : Int32} {Q79 : Option Value → Nat → ev_H → Prop} {bc79 : Nat} {bs79 : Nat} {rc79 : Nat} {rs79 : Nat} (h_r0 : F r0 = some (.inr (6, [.ref (r0 + 1), .ref (r0 + 10), .int ir0_termCount, .int ir0_weighedCount]))) (h_r2 : F r2 = some (.inr (12, [.ref r2_elementData, .int ir2_size, .int ir2_modCount]))) (h_v63 : F v63 = some (.inr (8, [.int iv63_id, .ref v63_terms]))) (h_r3 : F r3 = some (.inr (7, [.ref (r3 + 1), .ref (r3 + 2), .int ir3_count]))) (hb_rc79 : rc79 + bc79 ≤ bc) (hs_rs79 : rs79 + bs79 ≤ bs)
    (c63_0 : Cal l X M_AL_get 0 0 [.ref r2, .int i4] n (ev_up F r0 (.inr (6, [.ref (r0 + 1), .ref (r0 + 10), .int ir0_termCount, .int (ir0_weighedCount + 1)]))) (ev_pure (.ref v63) n (ev_up F r0 (.inr (6, [.ref (r0 + 1), .ref (r0 + 10), .int ir0_termCount, .int (ir0_weighedCount + 1)])))))
    (c75_1 : Cal l X M_Ra_weightOf 0 0 [.ref r0, .int i4] n (ev_up F r0 (.inr (6, [.ref (r0 + 1), .ref (r0 + 10), .int ir0_termCount, .int (ir0_weighedCount + 1)]))) (ev_pure (.int v75) n (ev_up F r0 (.inr (6, [.ref (r0 + 1), .ref (r0 + 10), .int ir0_termCount, .int (ir0_weighedCount + 1)])))))
    (c79_2 : Cal l X M_Re_insert bc79 bs79 [.ref r3, .int iv63_id, .int v75, .int i1] n (ev_up F r0 (.inr (6, [.ref (r0 + 1), .ref (r0 + 10), .int ir0_termCount, .int (ir0_weighedCount + 1)]))) Q79)
    (k82_3 : ∀ v2 n2 F2, Q79 v2 n2 F2 → Ev l X M_Ra_chooseBest rc79 rs79 82 [(0, .ref r0), (1, .int i1), (2, .ref r2), (3, .ref r3), (4, .int i4)] (v2.toList ++ []) n2 F2 (ev_mq X Q)) :
    Ev l X M_Ra_chooseBest bc bs 49 [(0, .ref r0), (1, .int i1), (2, .ref r2), (3, .ref r3), (4, .int i4)] [] n F (ev_mq X Q) := by
  refine ev_aload_n (pc := 49) d_Ra_chooseBest_49 rfl ?_
  refine ev_dup (pc := 50) d_Ra_chooseBest_50 rfl ?_
  refine ev_getfield (pc := 51) 3 d_Ra_chooseBest_51 fl_Ra_24 h_r0 rfl ?_
  refine ev_iconst (pc := 54) 1 d_Ra_chooseBest_54 (by decide) ?_
  refine ev_iadd (pc := 55) d_Ra_chooseBest_55 ?_
  refine ev_putfield (pc := 56) 3 _ d_Ra_chooseBest_56 fl_Ra_24 h_r0 pf_6_weighedCount rfl rfl (Nat.le_of_ble_eq_true rfl) (fun F1_ hF1_ => ?_)
  have g2_ : F1_ r0 = some (.inr (6, [.ref (r0 + 1), .ref (r0 + 10), .int ir0_termCount, .int (ir0_weighedCount + 1)])) := by rw [← hF1_]; exact ev_up_s
  refine ev_aload_n (pc := 59) d_Ra_chooseBest_59 rfl ?_
  refine ev_aload_n (pc := 60) d_Ra_chooseBest_60 rfl ?_
  refine ev_iload (pc := 61) d_Ra_chooseBest_61 rfl ?_
  have g3_ : F1_ r2 = some (.inr (12, [.ref r2_elementData, .int ir2_size, .int ir2_modCount])) := by rw [← hF1_]; exact ev_up_k (ev_ne_oo h_r2 h_r0 rfl) h_r2
  refine ev_invokevirtual (pc := 63) (As := [.int i4]) (st := [.ref r3]) (Q2 := ev_pure (.ref v63) n F1_) (bc1 := 0) (bs1 := 0) M_AL_get rC12 d_Ra_chooseBest_63 lc_Ra_63 wd_473 wd_474 rfl g3_ rfl rfl (Nat.le_of_ble_eq_true rfl) (Nat.le_of_ble_eq_true rfl) (Nat.le_of_ble_eq_true rfl) (Nat.le_refl _) (Nat.le_refl _) (by subst hF1_; exact c63_0) ?_
  refine ev_purek ?_
  have g4_ : F1_ v63 = some (.inr (8, [.int iv63_id, .ref v63_terms])) := by rw [← hF1_]; exact ev_up_k (ev_ne_oo h_v63 h_r0 rfl) h_v63
  refine ev_checkcast (pc := 66) rC8 d_Ra_chooseBest_66 wd_818 wd_1203 rfl g4_ ?_
  refine ev_getfield (pc := 69) 0 d_Ra_chooseBest_69 fl_Ra_92 g4_ rfl ?_
  refine ev_aload_n (pc := 72) d_Ra_chooseBest_72 rfl ?_
  refine ev_iload (pc := 73) d_Ra_chooseBest_73 rfl ?_
  refine ev_invokevirtual (pc := 75) (As := [.int i4]) (st := [.int iv63_id, .ref r3]) (Q2 := ev_pure (.int v75) n F1_) (bc1 := 0) (bs1 := 0) M_Ra_weightOf rC6 d_Ra_chooseBest_75 lc_Ra_95 wd_846 wd_s30 rfl g2_ rfl rfl (Nat.le_of_ble_eq_true rfl) (Nat.le_of_ble_eq_true rfl) (Nat.le_of_ble_eq_true rfl) (Nat.le_refl _) (Nat.le_refl _) (by subst hF1_; exact c75_1) ?_
  refine ev_purek ?_
  refine ev_iload_n (pc := 78) d_Ra_chooseBest_78 rfl ?_
  have g5_ : F1_ r3 = some (.inr (7, [.ref (r3 + 1), .ref (r3 + 2), .int ir3_count])) := by rw [← hF1_]; exact ev_up_k (ev_ne_oo h_r3 h_r0 rfl) h_r3
  exact ev_invokevirtual (pc := 79) (As := [.int iv63_id, .int v75, .int i1]) (st := []) (Q2 := Q79) M_Re_insert rC7 d_Ra_chooseBest_79 lc_Ra_98 wd_781 wd_782 rfl g5_ rfl rfl (Nat.le_of_ble_eq_true rfl) (Nat.le_of_ble_eq_true rfl) (Nat.le_of_ble_eq_true rfl) hb_rc79 hs_rs79 (by subst hF1_; exact c79_2) k82_3

set_option maxRecDepth 100000 in
set_option maxHeartbeats 4000000 in
theorem s_Ra_chooseBest_82 {l : Launch} {X : ev_X} {bc bs n : Nat} {F : ev_H} {Q : Option Value → Nat → ev_H → Prop} {r0 : Nat} {i1 : Int32} {r2 : Nat} {r3 : Nat} {i4 : Int32} 
    (k3_0 : Ev l X M_Ra_chooseBest bc bs 3 [(0, .ref r0), (1, .int i1), (2, .ref r2), (3, .ref r3), (4, .int (i4 + 1))] [] n F (ev_mq X Q)) :
    Ev l X M_Ra_chooseBest bc bs 82 [(0, .ref r0), (1, .int i1), (2, .ref r2), (3, .ref r3), (4, .int i4)] [] n F (ev_mq X Q) := by
  refine ev_iinc (pc := 82) 4 1 d_Ra_chooseBest_82 rfl (by decide) (Nat.le_of_ble_eq_true rfl) [1, 2, 3, 4, 0] rfl ?_
  refine ev_goto (pc := 85) 3 d_Ra_chooseBest_85 (by decide) ?_
  exact k3_0
set_option maxRecDepth 100000 in
set_option maxHeartbeats 4000000 in
theorem s_Ra_hasTermOfBag_0 {l : Launch} {X : ev_X} {bc bs n : Nat} {F : ev_H} {Q : Option Value → Nat → ev_H → Prop} {r0 : Nat} {i1 : Int32} 
    (k2_0 : Ev l X M_Ra_hasTermOfBag bc bs 2 [(0, .ref r0), (1, .int i1), (2, .int 0)] [] n F (ev_mq X Q)) :
    Ev l X M_Ra_hasTermOfBag bc bs 0 [(0, .ref r0), (1, .int i1)] [] n F (ev_mq X Q) := by
  refine ev_iconst (pc := 0) 0 d_Ra_hasTermOfBag_0 (by decide) ?_
  refine ev_istore_n (pc := 1) d_Ra_hasTermOfBag_1 (Nat.le_of_ble_eq_true rfl) [1, 2, 0] rfl ?_
  exact k2_0

set_option maxRecDepth 100000 in
set_option maxHeartbeats 4000000 in
theorem s_Ra_hasTermOfBag_2 {l : Launch} {X : ev_X} {bc bs n : Nat} {F : ev_H} {Q : Option Value → Nat → ev_H → Prop} {r0 : Nat} {i1 : Int32} {i2 : Int32} {ir0_termCount : Int32} {ir0_weighedCount : Int32} {r0p1_f : Nat → Option Nat} {x15 : Nat} {x15_n : Nat} {x15_f : Nat → Int32} (h_r0 : F r0 = some (.inr (6, [.ref (r0 + 1), .ref (r0 + 10), .int ir0_termCount, .int ir0_weighedCount]))) (h_r0p1 : F (r0 + 1) = some (.inl (6, 8, .inr (.inr (.inr (.inr r0p1_f))))))
    (q31_0 : (ir0_termCount ≤ i2) → Q (some (.int 0)) n F)
    (in15_1 : (¬ ir0_termCount ≤ i2) → vp_in i2 8)
    (e15_2 : (¬ ir0_termCount ≤ i2) → r0p1_f i2.toNatClampNeg = some x15)
    (hx15_3 : (¬ ir0_termCount ≤ i2) → F x15 = some (.inl (0, x15_n, .inl x15_f)))
    (in17_4 : (¬ ir0_termCount ≤ i2) → vp_in i1 x15_n)
    (k2_5 : (¬ ir0_termCount ≤ i2) → ((x15_f i1.toNatClampNeg) = (-1)) → Ev l X M_Ra_hasTermOfBag bc bs 2 [(0, .ref r0), (1, .int i1), (2, .int (i2 + 1))] [] n F (ev_mq X Q))
    (q23_6 : (¬ ir0_termCount ≤ i2) → (¬ (x15_f i1.toNatClampNeg) = (-1)) → Q (some (.int 1)) n F) :
    Ev l X M_Ra_hasTermOfBag bc bs 2 [(0, .ref r0), (1, .int i1), (2, .int i2)] [] n F (ev_mq X Q) := by
  refine ev_iload_n (pc := 2) d_Ra_hasTermOfBag_2 rfl ?_
  refine ev_aload_n (pc := 3) d_Ra_hasTermOfBag_3 rfl ?_
  refine ev_getfield (pc := 4) 2 d_Ra_hasTermOfBag_4 fl_Ra_20 h_r0 rfl ?_
  refine ev_icmp_ge (pc := 7) 30 d_Ra_hasTermOfBag_7 (by decide) (fun c7 => ?_) (fun c7 => ?_)
  · refine ev_iconst (pc := 30) 0 d_Ra_hasTermOfBag_30 (by decide) ?_
    exact ev_ireturn (pc := 31) d_Ra_hasTermOfBag_31 rfl rfl (q31_0 c7)
  · refine ev_aload_n (pc := 10) d_Ra_hasTermOfBag_10 rfl ?_
    refine ev_getfield (pc := 11) 0 d_Ra_hasTermOfBag_11 fl_Ra_11 h_r0 rfl ?_
    refine ev_iload_n (pc := 14) d_Ra_hasTermOfBag_14 rfl ?_
    refine ev_aaload (pc := 15) d_Ra_hasTermOfBag_15 h_r0p1 rfl rfl (in15_1 c7) ?_
    refine ev_rf (e15_2 c7) ?_
    refine ev_iload_n (pc := 16) d_Ra_hasTermOfBag_16 rfl ?_
    refine ev_iaload (pc := 17) d_Ra_hasTermOfBag_17 (hx15_3 c7) rfl (in17_4 c7) ?_
    refine ev_iconst (pc := 18) (-1) d_Ra_hasTermOfBag_18 (by decide) ?_
    refine ev_icmp_eq (pc := 19) 24 d_Ra_hasTermOfBag_19 (by decide) (fun c19 => ?_) (fun c19 => ?_)
    · refine ev_iinc (pc := 24) 2 1 d_Ra_hasTermOfBag_24 rfl (by decide) (Nat.le_of_ble_eq_true rfl) [1, 2, 0] rfl ?_
      refine ev_goto (pc := 27) 2 d_Ra_hasTermOfBag_27 (by decide) ?_
      exact (k2_5 c7 c19)
    · refine ev_iconst (pc := 22) 1 d_Ra_hasTermOfBag_22 (by decide) ?_
      exact ev_ireturn (pc := 23) d_Ra_hasTermOfBag_23 rfl rfl (q23_6 c7 c19)
set_option maxRecDepth 100000 in
set_option maxHeartbeats 4000000 in
theorem s_Ra_boundOf_0 {l : Launch} {X : ev_X} {bc bs n : Nat} {F : ev_H} {Q : Option Value → Nat → ev_H → Prop} {r0 : Nat} {i1 : Int32} 
    (k4_0 : Ev l X M_Ra_boundOf bc bs 4 [(0, .ref r0), (1, .int i1), (2, .int 0), (3, .int 0)] [] n F (ev_mq X Q)) :
    Ev l X M_Ra_boundOf bc bs 0 [(0, .ref r0), (1, .int i1)] [] n F (ev_mq X Q) := by
  refine ev_iconst (pc := 0) 0 d_Ra_boundOf_0 (by decide) ?_
  refine ev_istore_n (pc := 1) d_Ra_boundOf_1 (Nat.le_of_ble_eq_true rfl) [1, 2, 0] rfl ?_
  refine ev_iconst (pc := 2) 0 d_Ra_boundOf_2 (by decide) ?_
  refine ev_istore_n (pc := 3) d_Ra_boundOf_3 (Nat.le_of_ble_eq_true rfl) [1, 2, 3, 0] rfl ?_
  exact k4_0

set_option maxRecDepth 100000 in
set_option maxHeartbeats 4000000 in
theorem s_Ra_boundOf_4 {l : Launch} {X : ev_X} {bc bs n : Nat} {F : ev_H} {Q : Option Value → Nat → ev_H → Prop} {r0 : Nat} {i1 : Int32} {i2 : Int32} {i3 : Int32} {ir0_termCount : Int32} {ir0_weighedCount : Int32} {r0p1_f : Nat → Option Nat} {x18 : Nat} {x18_n : Nat} {x18_f : Nat → Int32} {r0p10_f : Nat → Int32} (h_r0 : F r0 = some (.inr (6, [.ref (r0 + 1), .ref (r0 + 10), .int ir0_termCount, .int ir0_weighedCount]))) (h_r0p1 : F (r0 + 1) = some (.inl (6, 8, .inr (.inr (.inr (.inr r0p1_f)))))) (h_r0p10 : F (r0 + 10) = some (.inl (0, 8, .inl r0p10_f)))
    (q44_0 : (ir0_termCount ≤ i3) → Q (some (.int i2)) n F)
    (in18_1 : (¬ ir0_termCount ≤ i3) → vp_in i3 8)
    (e18_2 : (¬ ir0_termCount ≤ i3) → r0p1_f i3.toNatClampNeg = some x18)
    (hx18_3 : (¬ ir0_termCount ≤ i3) → F x18 = some (.inl (0, x18_n, .inl x18_f)))
    (in20_4 : (¬ ir0_termCount ≤ i3) → vp_in i1 x18_n)
    (k4_5 : (¬ ir0_termCount ≤ i3) → ((x18_f i1.toNatClampNeg) = (-1)) → Ev l X M_Ra_boundOf bc bs 4 [(0, .ref r0), (1, .int i1), (2, .int (i2 + 0)), (3, .int (i3 + 1))] [] n F (ev_mq X Q))
    (in30_6 : (¬ ir0_termCount ≤ i3) → (¬ (x18_f i1.toNatClampNeg) = (-1)) → vp_in i3 8)
    (k4_7 : (¬ ir0_termCount ≤ i3) → (¬ (x18_f i1.toNatClampNeg) = (-1)) → Ev l X M_Ra_boundOf bc bs 4 [(0, .ref r0), (1, .int i1), (2, .int (i2 + (r0p10_f i3.toNatClampNeg))), (3, .int (i3 + 1))] [] n F (ev_mq X Q)) :
    Ev l X M_Ra_boundOf bc bs 4 [(0, .ref r0), (1, .int i1), (2, .int i2), (3, .int i3)] [] n F (ev_mq X Q) := by
  refine ev_iload_n (pc := 4) d_Ra_boundOf_4 rfl ?_
  refine ev_aload_n (pc := 5) d_Ra_boundOf_5 rfl ?_
  refine ev_getfield (pc := 6) 2 d_Ra_boundOf_6 fl_Ra_20 h_r0 rfl ?_
  refine ev_icmp_ge (pc := 9) 43 d_Ra_boundOf_9 (by decide) (fun c9 => ?_) (fun c9 => ?_)
  · refine ev_iload_n (pc := 43) d_Ra_boundOf_43 rfl ?_
    exact ev_ireturn (pc := 44) d_Ra_boundOf_44 rfl rfl (q44_0 c9)
  · refine ev_iload_n (pc := 12) d_Ra_boundOf_12 rfl ?_
    refine ev_aload_n (pc := 13) d_Ra_boundOf_13 rfl ?_
    refine ev_getfield (pc := 14) 0 d_Ra_boundOf_14 fl_Ra_11 h_r0 rfl ?_
    refine ev_iload_n (pc := 17) d_Ra_boundOf_17 rfl ?_
    refine ev_aaload (pc := 18) d_Ra_boundOf_18 h_r0p1 rfl rfl (in18_1 c9) ?_
    refine ev_rf (e18_2 c9) ?_
    refine ev_iload_n (pc := 19) d_Ra_boundOf_19 rfl ?_
    refine ev_iaload (pc := 20) d_Ra_boundOf_20 (hx18_3 c9) rfl (in20_4 c9) ?_
    refine ev_iconst (pc := 21) (-1) d_Ra_boundOf_21 (by decide) ?_
    refine ev_icmp_eq (pc := 22) 34 d_Ra_boundOf_22 (by decide) (fun c22 => ?_) (fun c22 => ?_)
    · refine ev_iconst (pc := 34) 0 d_Ra_boundOf_34 (by decide) ?_
      refine ev_iadd (pc := 35) d_Ra_boundOf_35 ?_
      refine ev_istore_n (pc := 36) d_Ra_boundOf_36 (Nat.le_of_ble_eq_true rfl) [1, 2, 0, 3] rfl ?_
      refine ev_iinc (pc := 37) 3 1 d_Ra_boundOf_37 rfl (by decide) (Nat.le_of_ble_eq_true rfl) [1, 2, 3, 0] rfl ?_
      refine ev_goto (pc := 40) 4 d_Ra_boundOf_40 (by decide) ?_
      exact (k4_5 c9 c22)
    · refine ev_aload_n (pc := 25) d_Ra_boundOf_25 rfl ?_
      refine ev_getfield (pc := 26) 1 d_Ra_boundOf_26 fl_Ra_16 h_r0 rfl ?_
      refine ev_iload_n (pc := 29) d_Ra_boundOf_29 rfl ?_
      refine ev_iaload (pc := 30) d_Ra_boundOf_30 h_r0p10 rfl (in30_6 c9 c22) ?_
      refine ev_goto (pc := 31) 35 d_Ra_boundOf_31 (by decide) ?_
      refine ev_iadd (pc := 35) d_Ra_boundOf_35 ?_
      refine ev_istore_n (pc := 36) d_Ra_boundOf_36 (Nat.le_of_ble_eq_true rfl) [1, 2, 0, 3] rfl ?_
      refine ev_iinc (pc := 37) 3 1 d_Ra_boundOf_37 rfl (by decide) (Nat.le_of_ble_eq_true rfl) [1, 2, 3, 0] rfl ?_
      refine ev_goto (pc := 40) 4 d_Ra_boundOf_40 (by decide) ?_
      exact (k4_7 c9 c22)
set_option maxRecDepth 100000 in
set_option maxHeartbeats 4000000 in
theorem s_Ra_weightOf_0 {l : Launch} {X : ev_X} {bc bs n : Nat} {F : ev_H} {Q : Option Value → Nat → ev_H → Prop} {r0 : Nat} {i1 : Int32} 
    (k4_0 : Ev l X M_Ra_weightOf bc bs 4 [(0, .ref r0), (1, .int i1), (2, .int 0), (3, .int 0)] [] n F (ev_mq X Q)) :
    Ev l X M_Ra_weightOf bc bs 0 [(0, .ref r0), (1, .int i1)] [] n F (ev_mq X Q) := by
  refine ev_iconst (pc := 0) 0 d_Ra_weightOf_0 (by decide) ?_
  refine ev_istore_n (pc := 1) d_Ra_weightOf_1 (Nat.le_of_ble_eq_true rfl) [1, 2, 0] rfl ?_
  refine ev_iconst (pc := 2) 0 d_Ra_weightOf_2 (by decide) ?_
  refine ev_istore_n (pc := 3) d_Ra_weightOf_3 (Nat.le_of_ble_eq_true rfl) [1, 2, 3, 0] rfl ?_
  exact k4_0

set_option maxRecDepth 100000 in
set_option maxHeartbeats 4000000 in
theorem s_Ra_weightOf_4 {l : Launch} {X : ev_X} {bc bs n : Nat} {F : ev_H} {Q : Option Value → Nat → ev_H → Prop} {r0 : Nat} {i1 : Int32} {i2 : Int32} {i3 : Int32} {ir0_termCount : Int32} {ir0_weighedCount : Int32} {r0p1_f : Nat → Option Nat} {x19 : Nat} {x19_n : Nat} {x19_f : Nat → Int32} (h_r0 : F r0 = some (.inr (6, [.ref (r0 + 1), .ref (r0 + 10), .int ir0_termCount, .int ir0_weighedCount]))) (h_r0p1 : F (r0 + 1) = some (.inl (6, 8, .inr (.inr (.inr (.inr r0p1_f))))))
    (q34_0 : (ir0_termCount ≤ i3) → Q (some (.int i2)) n F)
    (in19_1 : (¬ ir0_termCount ≤ i3) → vp_in i3 8)
    (e19_2 : (¬ ir0_termCount ≤ i3) → r0p1_f i3.toNatClampNeg = some x19)
    (hx19_3 : (¬ ir0_termCount ≤ i3) → F x19 = some (.inl (0, x19_n, .inl x19_f)))
    (in21_4 : (¬ ir0_termCount ≤ i3) → vp_in i1 x19_n)
    (k4_5 : (¬ ir0_termCount ≤ i3) → Ev l X M_Ra_weightOf bc bs 4 [(0, .ref r0), (1, .int i1), (2, .int (i2 + (if 0 < (x19_f i1.toNatClampNeg) then x19_f i1.toNatClampNeg else 0))), (3, .int (i3 + 1))] [] n F (ev_mq X Q)) :
    Ev l X M_Ra_weightOf bc bs 4 [(0, .ref r0), (1, .int i1), (2, .int i2), (3, .int i3)] [] n F (ev_mq X Q) := by
  refine ev_iload_n (pc := 4) d_Ra_weightOf_4 rfl ?_
  refine ev_aload_n (pc := 5) d_Ra_weightOf_5 rfl ?_
  refine ev_getfield (pc := 6) 2 d_Ra_weightOf_6 fl_Ra_20 h_r0 rfl ?_
  refine ev_icmp_ge (pc := 9) 33 d_Ra_weightOf_9 (by decide) (fun c9 => ?_) (fun c9 => ?_)
  · refine ev_iload_n (pc := 33) d_Ra_weightOf_33 rfl ?_
    exact ev_ireturn (pc := 34) d_Ra_weightOf_34 rfl rfl (q34_0 c9)
  · refine ev_iload_n (pc := 12) d_Ra_weightOf_12 rfl ?_
    refine ev_iconst (pc := 13) 0 d_Ra_weightOf_13 (by decide) ?_
    refine ev_aload_n (pc := 14) d_Ra_weightOf_14 rfl ?_
    refine ev_getfield (pc := 15) 0 d_Ra_weightOf_15 fl_Ra_11 h_r0 rfl ?_
    refine ev_iload_n (pc := 18) d_Ra_weightOf_18 rfl ?_
    refine ev_aaload (pc := 19) d_Ra_weightOf_19 h_r0p1 rfl rfl (in19_1 c9) ?_
    refine ev_rf (e19_2 c9) ?_
    refine ev_iload_n (pc := 20) d_Ra_weightOf_20 rfl ?_
    refine ev_iaload (pc := 21) d_Ra_weightOf_21 (hx19_3 c9) rfl (in21_4 c9) ?_
    refine ev_mmax (pc := 22) d_Ra_weightOf_22 wd_827 wd_275 wd_15 wd_276 (Nat.le_of_ble_eq_true rfl) (Nat.le_of_ble_eq_true rfl) ?_
    refine ev_iadd (pc := 25) d_Ra_weightOf_25 ?_
    refine ev_istore_n (pc := 26) d_Ra_weightOf_26 (Nat.le_of_ble_eq_true rfl) [1, 2, 0, 3] rfl ?_
    refine ev_iinc (pc := 27) 3 1 d_Ra_weightOf_27 rfl (by decide) (Nat.le_of_ble_eq_true rfl) [1, 2, 3, 0] rfl ?_
    refine ev_goto (pc := 30) 4 d_Ra_weightOf_30 (by decide) ?_
    exact (k4_5 c9)
