set_option maxRecDepth 100000 in
set_option maxHeartbeats 4000000 in
theorem s_Pe_init_0 {l : Launch} {X : ev_X} {bc bs n : Nat} {F : ev_H} {Q : Option Value → Nat → ev_H → Prop} {r0 : Nat} {rc5 : Nat} {rs5 : Nat} {Q9 : Option Value → Nat → ev_H → Prop} {bc9 : Nat} {bs9 : Nat} {rc9 : Nat} {rs9 : Nat} (hb_rc5 : rc5 + 1 ≤ bc) (hs_rs5 : rs5 + 3 ≤ bs) (hb_rc9 : rc9 + bc9 ≤ rc5) (hs_rs9 : rs9 + bs9 ≤ rs5)
    (c9_0 : Cal l X M_AL_init bc9 bs9 [.ref n] (n + 1) (ev_up F n (.inr (12, [.null, .int 0, .int 0]))) Q9)
    (k12_1 : ∀ v2 n2 F2, Q9 v2 n2 F2 → Ev l X M_Pe_init rc9 rs9 12 [(0, .ref r0)] (v2.toList ++ [.ref n, .ref r0]) n2 F2 (ev_mq X Q)) :
    Ev l X M_Pe_init bc bs 0 [(0, .ref r0)] [] n F (ev_mq X Q) := by
  refine ev_aload_n (pc := 0) d_Pe_init_0 rfl ?_
  refine ev_objInit (pc := 1) d_Pe_init_1 wd_58 wd_33 wd_34 (Nat.le_of_ble_eq_true rfl) (Nat.le_of_ble_eq_true rfl) ?_
  refine ev_aload_n (pc := 4) d_Pe_init_4 rfl ?_
  refine ev_fresh fun fr5 => ?_
  refine ev_new (pc := 5) 12 [.null, .int 0, .int 0] d_Pe_init_5 ck_12 wd_59 wd_60 wd_6 (by decide +kernel) (bc2 := rc5) (bs2 := rs5) hb_rc5 hs_rs5 (fun F1_ hF1_ => ?_)
  have g2_ : F1_ n = some (.inr (12, [.null, .int 0, .int 0])) := by rw [← hF1_]; exact ev_up_s
  refine ev_dup (pc := 8) d_Pe_init_8 rfl ?_
  exact ev_init (pc := 9) (As := []) (st := [.ref n, .ref r0]) (Q2 := Q9) M_AL_init d_Pe_init_9 lc_Pe_9 rfl rfl wd_62 rfl rfl (Nat.le_of_ble_eq_true rfl) (Nat.le_of_ble_eq_true rfl) (Nat.le_of_ble_eq_true rfl) hb_rc9 hs_rs9 (by subst hF1_; exact c9_0) k12_1

set_option maxRecDepth 100000 in
set_option maxHeartbeats 4000000 in
theorem s_Pe_init_12 {l : Launch} {X : ev_X} {bc bs n : Nat} {F : ev_H} {Q : Option Value → Nat → ev_H → Prop} {r0 : Nat} {rs0 : Nat} {rs1 : Nat} {irs0_ids : Int32} {ir0_ids : Int32} (h_rs0 : F rs0 = some (.inr (2, [.ref (rs0 + 1), .int irs0_ids]))) (h_r0 : F r0 = some (.inr (2, [.null, .int ir0_ids]))) (ne_r0_rs0 : r0 ≠ rs0) (ne_rs0_r0 : rs0 ≠ r0)
    (q20_0 : Q none n (ev_up (ev_up F rs0 (.inr (2, [.ref rs1, .int irs0_ids]))) r0 (.inr (2, [.null, .int 0])))) :
    Ev l X M_Pe_init bc bs 12 [(0, .ref r0)] [.ref rs1, .ref rs0] n F (ev_mq X Q) := by
  refine ev_putfield (pc := 12) 0 _ d_Pe_init_12 fl_Pe_10 h_rs0 (ev_pfn (r0 := rC2) (ty := (.object "java/util/ArrayList")) rfl (Or.inr ⟨rfl, rfl, rfl⟩) (by decide +kernel)) rfl rfl (Nat.le_of_ble_eq_true rfl) (fun F1_ hF1_ => ?_)
  have g2_ : F1_ rs0 = some (.inr (2, [.ref rs1, .int irs0_ids])) := by rw [← hF1_]; exact ev_up_s
  refine ev_aload_n (pc := 15) d_Pe_init_15 rfl ?_
  refine ev_iconst (pc := 16) 0 d_Pe_init_16 (by decide) ?_
  have g3_ : F1_ r0 = some (.inr (2, [.null, .int ir0_ids])) := by rw [← hF1_]; exact ev_up_k ne_r0_rs0 h_r0
  refine ev_putfield (pc := 17) 1 _ d_Pe_init_17 fl_Pe_16 g3_ pf_2_ids rfl rfl (Nat.le_of_ble_eq_true rfl) (fun F4_ hF4_ => ?_)
  have g5_ : F4_ rs0 = some (.inr (2, [.ref rs1, .int irs0_ids])) := by rw [← hF4_]; exact ev_up_k ne_rs0_r0 g2_
  have g6_ : F4_ r0 = some (.inr (2, [.null, .int 0])) := by rw [← hF4_]; exact ev_up_s
  exact ev_return (pc := 20) d_Pe_init_20 rfl (by subst hF1_ hF4_; exact q20_0)
set_option maxRecDepth 100000 in
set_option maxHeartbeats 4000000 in
theorem s_Sh_init_0 {l : Launch} {X : ev_X} {bc bs n : Nat} {F : ev_H} {Q : Option Value → Nat → ev_H → Prop} {r0 : Nat} {rc5 : Nat} {rs5 : Nat} {Q9 : Option Value → Nat → ev_H → Prop} {bc9 : Nat} {bs9 : Nat} {rc9 : Nat} {rs9 : Nat} (hb_rc5 : rc5 + 1 ≤ bc) (hs_rs5 : rs5 + 3 ≤ bs) (hb_rc9 : rc9 + bc9 ≤ rc5) (hs_rs9 : rs9 + bs9 ≤ rs5)
    (c9_0 : Cal l X M_AL_init bc9 bs9 [.ref n] (n + 1) (ev_up F n (.inr (12, [.null, .int 0, .int 0]))) Q9)
    (k12_1 : ∀ v2 n2 F2, Q9 v2 n2 F2 → Ev l X M_Sh_init rc9 rs9 12 [(0, .ref r0)] (v2.toList ++ [.ref n, .ref r0]) n2 F2 (ev_mq X Q)) :
    Ev l X M_Sh_init bc bs 0 [(0, .ref r0)] [] n F (ev_mq X Q) := by
  refine ev_aload_n (pc := 0) d_Sh_init_0 rfl ?_
  refine ev_objInit (pc := 1) d_Sh_init_1 wd_102 wd_33 wd_34 (Nat.le_of_ble_eq_true rfl) (Nat.le_of_ble_eq_true rfl) ?_
  refine ev_aload_n (pc := 4) d_Sh_init_4 rfl ?_
  refine ev_fresh fun fr5 => ?_
  refine ev_new (pc := 5) 12 [.null, .int 0, .int 0] d_Sh_init_5 ck_12 wd_103 wd_60 wd_6 (by decide +kernel) (bc2 := rc5) (bs2 := rs5) hb_rc5 hs_rs5 (fun F1_ hF1_ => ?_)
  have g2_ : F1_ n = some (.inr (12, [.null, .int 0, .int 0])) := by rw [← hF1_]; exact ev_up_s
  refine ev_dup (pc := 8) d_Sh_init_8 rfl ?_
  exact ev_init (pc := 9) (As := []) (st := [.ref n, .ref r0]) (Q2 := Q9) M_AL_init d_Sh_init_9 lc_Sh_9 rfl rfl wd_62 rfl rfl (Nat.le_of_ble_eq_true rfl) (Nat.le_of_ble_eq_true rfl) (Nat.le_of_ble_eq_true rfl) hb_rc9 hs_rs9 (by subst hF1_; exact c9_0) k12_1

set_option maxRecDepth 100000 in
set_option maxHeartbeats 4000000 in
theorem s_Sh_init_12 {l : Launch} {X : ev_X} {bc bs n : Nat} {F : ev_H} {Q : Option Value → Nat → ev_H → Prop} {r0 : Nat} {rs0 : Nat} {rs1 : Nat} {rc16 : Nat} {rs16 : Nat} {Q20 : Option Value → Nat → ev_H → Prop} {bc20 : Nat} {bs20 : Nat} {rc20 : Nat} {rs20 : Nat} (h_rs0 : F rs0 = some (.inr (3, [.ref (rs0 + 1), .ref (rs0 + 2)]))) (hb_rc16 : rc16 + 1 ≤ bc) (hs_rs16 : rs16 + 3 ≤ bs) (hb_rc20 : rc20 + bc20 ≤ rc16) (hs_rs20 : rs20 + bs20 ≤ rs16)
    (c20_0 : Cal l X M_AL_init bc20 bs20 [.ref n] (n + 1) (ev_up (ev_up F rs0 (.inr (3, [.ref rs1, .ref (rs0 + 2)]))) n (.inr (12, [.null, .int 0, .int 0]))) Q20)
    (k23_1 : ∀ v2 n2 F2, Q20 v2 n2 F2 → Ev l X M_Sh_init rc20 rs20 23 [(0, .ref r0)] (v2.toList ++ [.ref n, .ref r0]) n2 F2 (ev_mq X Q)) :
    Ev l X M_Sh_init bc bs 12 [(0, .ref r0)] [.ref rs1, .ref rs0] n F (ev_mq X Q) := by
  refine ev_putfield (pc := 12) 0 _ d_Sh_init_12 fl_Sh_10 h_rs0 (ev_pfn (r0 := rC3) (ty := (.object "java/util/ArrayList")) rfl (Or.inr ⟨rfl, rfl, rfl⟩) (by decide +kernel)) rfl rfl (Nat.le_of_ble_eq_true rfl) (fun F1_ hF1_ => ?_)
  have g2_ : F1_ rs0 = some (.inr (3, [.ref rs1, .ref (rs0 + 2)])) := by rw [← hF1_]; exact ev_up_s
  refine ev_aload_n (pc := 15) d_Sh_init_15 rfl ?_
  refine ev_fresh fun fr16 => ?_
  refine ev_new (pc := 16) 12 [.null, .int 0, .int 0] d_Sh_init_16 ck_12 wd_103 wd_60 wd_6 (by decide +kernel) (bc2 := rc16) (bs2 := rs16) hb_rc16 hs_rs16 (fun F3_ hF3_ => ?_)
  have g4_ : F3_ rs0 = some (.inr (3, [.ref rs1, .ref (rs0 + 2)])) := by rw [← hF3_]; exact ev_up_k (ev_nf g2_ (fr16 _ (Nat.le_refl _))) g2_
  have g5_ : F3_ n = some (.inr (12, [.null, .int 0, .int 0])) := by rw [← hF3_]; exact ev_up_s
  refine ev_dup (pc := 19) d_Sh_init_19 rfl ?_
  exact ev_init (pc := 20) (As := []) (st := [.ref n, .ref r0]) (Q2 := Q20) M_AL_init d_Sh_init_20 lc_Sh_9 rfl rfl wd_62 rfl rfl (Nat.le_of_ble_eq_true rfl) (Nat.le_of_ble_eq_true rfl) (Nat.le_of_ble_eq_true rfl) hb_rc20 hs_rs20 (by subst hF1_ hF3_; exact c20_0) k23_1

set_option maxRecDepth 100000 in
set_option maxHeartbeats 4000000 in
theorem s_Sh_init_23 {l : Launch} {X : ev_X} {bc bs n : Nat} {F : ev_H} {Q : Option Value → Nat → ev_H → Prop} {r0 : Nat} {rs0 : Nat} {rs1 : Nat} (h_rs0 : F rs0 = some (.inr (3, [.ref (rs0 + 1), .ref (rs0 + 2)])))
    (q26_0 : Q none n (ev_up F rs0 (.inr (3, [.ref (rs0 + 1), .ref rs1])))) :
    Ev l X M_Sh_init bc bs 23 [(0, .ref r0)] [.ref rs1, .ref rs0] n F (ev_mq X Q) := by
  refine ev_putfield (pc := 23) 1 _ d_Sh_init_23 fl_Sh_16 h_rs0 (ev_pfn (r0 := rC3) (ty := (.object "java/util/ArrayList")) rfl (Or.inr ⟨rfl, rfl, rfl⟩) (by decide +kernel)) rfl rfl (Nat.le_of_ble_eq_true rfl) (fun F1_ hF1_ => ?_)
  have g2_ : F1_ rs0 = some (.inr (3, [.ref (rs0 + 1), .ref rs1])) := by rw [← hF1_]; exact ev_up_s
  exact ev_return (pc := 26) d_Sh_init_26 rfl (by subst hF1_; exact q26_0)
set_option maxRecDepth 100000 in
set_option maxHeartbeats 4000000 in
theorem s_Pe_putDocument_0 {l : Launch} {X : ev_X} {bc bs n : Nat} {F : ev_H} {Q : Option Value → Nat → ev_H → Prop} {r0 : Nat} {r1 : Nat} {ir1_id : Int32} {r1_terms : Nat} {ir0_ids : Int32} {Q5 : Option Value → Nat → ev_H → Prop} {bc5 : Nat} {bs5 : Nat} {rc5 : Nat} {rs5 : Nat} (h_r1 : F r1 = some (.inr (8, [.int ir1_id, .ref r1_terms]))) (h_r0 : F r0 = some (.inr (2, [.ref (r0 + 1), .int ir0_ids]))) (hb_rc5 : rc5 + bc5 ≤ bc) (hs_rs5 : rs5 + bs5 ≤ bs)
    (c5_0 : Cal l X M_Pe_dropDocument bc5 bs5 [.ref r0, .int ir1_id] n F Q5)
    (k8_1 : ∀ v2 n2 F2, Q5 v2 n2 F2 → Ev l X M_Pe_putDocument rc5 rs5 8 [(0, .ref r0), (1, .ref r1)] (v2.toList ++ []) n2 F2 (ev_mq X Q)) :
    Ev l X M_Pe_putDocument bc bs 0 [(0, .ref r0), (1, .ref r1)] [] n F (ev_mq X Q) := by
  refine ev_aload_n (pc := 0) d_Pe_putDocument_0 rfl ?_
  refine ev_aload_n (pc := 1) d_Pe_putDocument_1 rfl ?_
  refine ev_getfield (pc := 2) 0 d_Pe_putDocument_2 fl_Pe_26 h_r1 rfl ?_
  exact ev_invokevirtual (pc := 5) (As := [.int ir1_id]) (st := []) (Q2 := Q5) M_Pe_dropDocument rC2 d_Pe_putDocument_5 lc_Pe_31 wd_466 wd_s12 rfl h_r0 rfl rfl (Nat.le_of_ble_eq_true rfl) (Nat.le_of_ble_eq_true rfl) (Nat.le_of_ble_eq_true rfl) hb_rc5 hs_rs5 c5_0 k8_1

set_option maxRecDepth 100000 in
set_option maxHeartbeats 4000000 in
theorem s_Pe_putDocument_8 {l : Launch} {X : ev_X} {bc bs n : Nat} {F : ev_H} {Q : Option Value → Nat → ev_H → Prop} {r0 : Nat} {r1 : Nat} {ir0_ids : Int32} {r0p1_elementData : Nat} {ir0p1_size : Int32} {ir0p1_modCount : Int32} {Q13 : Option Value → Nat → ev_H → Prop} {bc13 : Nat} {bs13 : Nat} {rc13 : Nat} {rs13 : Nat} (h_r0 : F r0 = some (.inr (2, [.ref (r0 + 1), .int ir0_ids]))) (h_r0p1 : F (r0 + 1) = some (.inr (12, [.ref r0p1_elementData, .int ir0p1_size, .int ir0p1_modCount]))) (hb_rc13 : rc13 + bc13 ≤ bc) (hs_rs13 : rs13 + bs13 ≤ bs)
    (c13_0 : Cal l X M_AL_add bc13 bs13 [.ref (r0 + 1), .ref r1] n F Q13)
    (k16_1 : ∀ v2 n2 F2, Q13 v2 n2 F2 → Ev l X M_Pe_putDocument rc13 rs13 16 [(0, .ref r0), (1, .ref r1)] (v2.toList ++ []) n2 F2 (ev_mq X Q)) :
    Ev l X M_Pe_putDocument bc bs 8 [(0, .ref r0), (1, .ref r1)] [] n F (ev_mq X Q) := by
  refine ev_aload_n (pc := 8) d_Pe_putDocument_8 rfl ?_
  refine ev_getfield (pc := 9) 0 d_Pe_putDocument_9 fl_Pe_10 h_r0 rfl ?_
  refine ev_aload_n (pc := 12) d_Pe_putDocument_12 rfl ?_
  exact ev_invokevirtual (pc := 13) (As := [.ref r1]) (st := []) (Q2 := Q13) M_AL_add rC12 d_Pe_putDocument_13 lc_Pe_35 wd_495 wd_496 rfl h_r0p1 rfl rfl (Nat.le_of_ble_eq_true rfl) (Nat.le_of_ble_eq_true rfl) (Nat.le_of_ble_eq_true rfl) hb_rc13 hs_rs13 c13_0 k16_1

set_option maxRecDepth 100000 in
set_option maxHeartbeats 4000000 in
theorem s_Pe_putDocument_16 {l : Launch} {X : ev_X} {bc bs n : Nat} {F : ev_H} {Q : Option Value → Nat → ev_H → Prop} {r0 : Nat} {r1 : Nat} {is0 : Int32} {ir0_ids : Int32} {ir1_id : Int32} {r1_terms : Nat} (h_r0 : F r0 = some (.inr (2, [.ref (r0 + 1), .int ir0_ids]))) (h_r1 : F r1 = some (.inr (8, [.int ir1_id, .ref r1_terms])))
    (q32_0 : Q none n (ev_up F r0 (.inr (2, [.ref (r0 + 1), .int (ir0_ids ||| ((1 : Int32) <<< (ir1_id &&& 31)))])))) :
    Ev l X M_Pe_putDocument bc bs 16 [(0, .ref r0), (1, .ref r1)] [.int is0] n F (ev_mq X Q) := by
  refine ev_pop (pc := 16) d_Pe_putDocument_16 rfl ?_
  refine ev_aload_n (pc := 17) d_Pe_putDocument_17 rfl ?_
  refine ev_dup (pc := 18) d_Pe_putDocument_18 rfl ?_
  refine ev_getfield (pc := 19) 1 d_Pe_putDocument_19 fl_Pe_16 h_r0 rfl ?_
  refine ev_iconst (pc := 22) 1 d_Pe_putDocument_22 (by decide) ?_
  refine ev_aload_n (pc := 23) d_Pe_putDocument_23 rfl ?_
  refine ev_getfield (pc := 24) 0 d_Pe_putDocument_24 fl_Pe_26 h_r1 rfl ?_
  refine ev_ishl (pc := 27) d_Pe_putDocument_27 ?_
  refine ev_ior (pc := 28) d_Pe_putDocument_28 ?_
  refine ev_putfield (pc := 29) 1 _ d_Pe_putDocument_29 fl_Pe_16 h_r0 pf_2_ids rfl rfl (Nat.le_of_ble_eq_true rfl) (fun F1_ hF1_ => ?_)
  have g2_ : F1_ r1 = some (.inr (8, [.int ir1_id, .ref r1_terms])) := by rw [← hF1_]; exact ev_up_k (ev_ne_oo h_r1 h_r0 rfl) h_r1
  have g3_ : F1_ r0 = some (.inr (2, [.ref (r0 + 1), .int (ir0_ids ||| ((1 : Int32) <<< (ir1_id &&& 31)))])) := by rw [← hF1_]; exact ev_up_s
  exact ev_return (pc := 32) d_Pe_putDocument_32 rfl (by subst hF1_; exact q32_0)
set_option maxRecDepth 100000 in
set_option maxHeartbeats 4000000 in
theorem s_Pe_dropDocument_0 {l : Launch} {X : ev_X} {bc bs n : Nat} {F : ev_H} {Q : Option Value → Nat → ev_H → Prop} {r0 : Nat} {i1 : Int32} {ir0_ids : Int32} {r0p1_elementData : Nat} {ir0p1_size : Int32} {ir0p1_modCount : Int32} {v4 : Int32} (h_r0 : F r0 = some (.inr (2, [.ref (r0 + 1), .int ir0_ids]))) (h_r0p1 : F (r0 + 1) = some (.inr (12, [.ref r0p1_elementData, .int ir0p1_size, .int ir0p1_modCount])))
    (c4_0 : Cal l X M_AL_size 0 0 [.ref (r0 + 1)] n F (ev_pure (.int v4) n F))
    (k10_1 : Ev l X M_Pe_dropDocument bc bs 10 [(0, .ref r0), (1, .int i1), (2, .int (v4 - 1))] [] n F (ev_mq X Q)) :
    Ev l X M_Pe_dropDocument bc bs 0 [(0, .ref r0), (1, .int i1)] [] n F (ev_mq X Q) := by
  refine ev_aload_n (pc := 0) d_Pe_dropDocument_0 rfl ?_
  refine ev_getfield (pc := 1) 0 d_Pe_dropDocument_1 fl_Pe_10 h_r0 rfl ?_
  refine ev_invokevirtual (pc := 4) (As := []) (st := []) (Q2 := ev_pure (.int v4) n F) (bc1 := 0) (bs1 := 0) M_AL_size rC12 d_Pe_dropDocument_4 lc_Pe_39 wd_469 wd_470 rfl h_r0p1 rfl rfl (Nat.le_of_ble_eq_true rfl) (Nat.le_of_ble_eq_true rfl) (Nat.le_of_ble_eq_true rfl) (Nat.le_refl _) (Nat.le_refl _) c4_0 ?_
  refine ev_purek ?_
  refine ev_iconst (pc := 7) 1 d_Pe_dropDocument_7 (by decide) ?_
  refine ev_isub (pc := 8) d_Pe_dropDocument_8 ?_
  refine ev_istore_n (pc := 9) d_Pe_dropDocument_9 (Nat.le_of_ble_eq_true rfl) [1, 2, 0] rfl ?_
  exact k10_1

set_option maxRecDepth 100000 in
set_option maxHeartbeats 4000000 in
theorem s_Pe_dropDocument_10 {l : Launch} {X : ev_X} {bc bs n : Nat} {F : ev_H} {Q : Option Value → Nat → ev_H → Prop} {r0 : Nat} {i1 : Int32} {i2 : Int32} {ir0_ids : Int32} {r0p1_elementData : Nat} {ir0p1_size : Int32} {ir0p1_modCount : Int32} {v19 : Nat} {iv19_id : Int32} {v19_terms : Nat} {Q37 : Option Value → Nat → ev_H → Prop} {bc37 : Nat} {bs37 : Nat} {rc37 : Nat} {rs37 : Nat} (h_r0 : F r0 = some (.inr (2, [.ref (r0 + 1), .int ir0_ids]))) (h_r0p1 : F (r0 + 1) = some (.inr (12, [.ref r0p1_elementData, .int ir0p1_size, .int ir0p1_modCount]))) (hb_rc37 : rc37 + bc37 ≤ bc) (hs_rs37 : rs37 + bs37 ≤ bs)
    (q47_0 : (i2 < 0) → Q none n F)
    (c19_1 : (¬ i2 < 0) → Cal l X M_AL_get 0 0 [.ref (r0 + 1), .int i2] n F (ev_pure (.ref v19) n F))
    (hv19_2 : (¬ i2 < 0) → F v19 = some (.inr (8, [.int iv19_id, .ref v19_terms])))
    (k10_3 : (¬ i2 < 0) → (¬ iv19_id = i1) → Ev l X M_Pe_dropDocument bc bs 10 [(0, .ref r0), (1, .int i1), (2, .int (i2 + (-1)))] [] n F (ev_mq X Q))
    (c37_4 : (¬ i2 < 0) → (iv19_id = i1) → Cal l X M_AL_remove bc37 bs37 [.ref (r0 + 1), .int i2] n F Q37)
    (k40_5 : (¬ i2 < 0) → (iv19_id = i1) → ∀ v2 n2 F2, Q37 v2 n2 F2 → Ev l X M_Pe_dropDocument rc37 rs37 40 [(0, .ref r0), (1, .int i1), (2, .int i2)] (v2.toList ++ []) n2 F2 (ev_mq X Q)) :
    Ev l X M_Pe_dropDocument bc bs 10 [(0, .ref r0), (1, .int i1), (2, .int i2)] [] n F (ev_mq X Q) := by
  refine ev_iload_n (pc := 10) d_Pe_dropDocument_10 rfl ?_
  refine ev_if_lt (pc := 11) 47 d_Pe_dropDocument_11 (by decide) (fun c11 => ?_) (fun c11 => ?_)
  · exact ev_return (pc := 47) d_Pe_dropDocument_47 rfl (q47_0 c11)
  · refine ev_aload_n (pc := 14) d_Pe_dropDocument_14 rfl ?_
    refine ev_getfield (pc := 15) 0 d_Pe_dropDocument_15 fl_Pe_10 h_r0 rfl ?_
    refine ev_iload_n (pc := 18) d_Pe_dropDocument_18 rfl ?_
    refine ev_invokevirtual (pc := 19) (As := [.int i2]) (st := []) (Q2 := ev_pure (.ref v19) n F) (bc1 := 0) (bs1 := 0) M_AL_get rC12 d_Pe_dropDocument_19 lc_Pe_43 wd_473 wd_474 rfl h_r0p1 rfl rfl (Nat.le_of_ble_eq_true rfl) (Nat.le_of_ble_eq_true rfl) (Nat.le_of_ble_eq_true rfl) (Nat.le_refl _) (Nat.le_refl _) (c19_1 c11) ?_
    refine ev_purek ?_
    refine ev_checkcast (pc := 22) rC8 d_Pe_dropDocument_22 wd_484 wd_1203 rfl (hv19_2 c11) ?_
    refine ev_getfield (pc := 25) 0 d_Pe_dropDocument_25 fl_Pe_26 (hv19_2 c11) rfl ?_
    refine ev_iload_n (pc := 28) d_Pe_dropDocument_28 rfl ?_
    refine ev_icmp_ne (pc := 29) 41 d_Pe_dropDocument_29 (by decide) (fun c29 => ?_) (fun c29 => ?_)
    · refine ev_iinc (pc := 41) 2 (-1) d_Pe_dropDocument_41 rfl (by decide) (Nat.le_of_ble_eq_true rfl) [1, 2, 0] rfl ?_
      refine ev_goto (pc := 44) 10 d_Pe_dropDocument_44 (by decide) ?_
      exact (k10_3 c11 c29)
    · refine ev_aload_n (pc := 32) d_Pe_dropDocument_32 rfl ?_
      refine ev_getfield (pc := 33) 0 d_Pe_dropDocument_33 fl_Pe_10 h_r0 rfl ?_
      refine ev_iload_n (pc := 36) d_Pe_dropDocument_36 rfl ?_
      exact ev_invokevirtual (pc := 37) (As := [.int i2]) (st := []) (Q2 := Q37) M_AL_remove rC12 d_Pe_dropDocument_37 lc_Pe_47 wd_486 wd_487 rfl h_r0p1 rfl rfl (Nat.le_of_ble_eq_true rfl) (Nat.le_of_ble_eq_true rfl) (Nat.le_of_ble_eq_true rfl) hb_rc37 hs_rs37 (c37_4 c11 c29) (k40_5 c11 c29)

set_option maxRecDepth 100000 in
set_option maxHeartbeats 4000000 in
theorem s_Pe_dropDocument_40 {l : Launch} {X : ev_X} {bc bs n : Nat} {F : ev_H} {Q : Option Value → Nat → ev_H → Prop} {r0 : Nat} {i1 : Int32} {i2 : Int32} {rs0 : Nat} 
    (k10_0 : Ev l X M_Pe_dropDocument bc bs 10 [(0, .ref r0), (1, .int i1), (2, .int (i2 + (-1)))] [] n F (ev_mq X Q)) :
    Ev l X M_Pe_dropDocument bc bs 40 [(0, .ref r0), (1, .int i1), (2, .int i2)] [.ref rs0] n F (ev_mq X Q) := by
  refine ev_pop (pc := 40) d_Pe_dropDocument_40 rfl ?_
  refine ev_iinc (pc := 41) 2 (-1) d_Pe_dropDocument_41 rfl (by decide) (Nat.le_of_ble_eq_true rfl) [1, 2, 0] rfl ?_
  refine ev_goto (pc := 44) 10 d_Pe_dropDocument_44 (by decide) ?_
  exact k10_0
set_option maxRecDepth 100000 in
set_option maxHeartbeats 4000000 in
theorem s_Pe_idCount_0 {l : Launch} {X : ev_X} {bc bs n : Nat} {F : ev_H} {Q : Option Value → Nat → ev_H → Prop} {r0 : Nat} {ir0_ids : Int32} {v4 : Int32} (h_r0 : F r0 = some (.inr (2, [.ref (r0 + 1), .int ir0_ids])))
    (c4_0 : Cal l X M_Int_bitCount 0 0 [.int ir0_ids] n F (ev_pure (.int v4) n F))
    (q7_1 : Q (some (.int v4)) n F) :
    Ev l X M_Pe_idCount bc bs 0 [(0, .ref r0)] [] n F (ev_mq X Q) := by
  refine ev_aload_n (pc := 0) d_Pe_idCount_0 rfl ?_
  refine ev_getfield (pc := 1) 1 d_Pe_idCount_1 fl_Pe_16 h_r0 rfl ?_
  refine ev_invokestatic (pc := 4) (As := [.int ir0_ids]) (st := []) (Q2 := ev_pure (.int v4) n F) (bc1 := 0) (bs1 := 0) M_Int_bitCount d_Pe_idCount_4 lc_Pe_20 wd_551 rfl rfl (Nat.le_of_ble_eq_true rfl) (Nat.le_of_ble_eq_true rfl) (Nat.le_of_ble_eq_true rfl) (Nat.le_refl _) (Nat.le_refl _) c4_0 ?_
  refine ev_purek ?_
  exact ev_ireturn (pc := 7) d_Pe_idCount_7 rfl rfl q7_1
set_option maxRecDepth 100000 in
set_option maxHeartbeats 4000000 in
theorem s_Pe_putDeletion_0 {l : Launch} {X : ev_X} {bc bs n : Nat} {F : ev_H} {Q : Option Value → Nat → ev_H → Prop} {r0 : Nat} {i1 : Int32} {ir0_ids : Int32} {Q2 : Option Value → Nat → ev_H → Prop} {bc2 : Nat} {bs2 : Nat} {rc2 : Nat} {rs2 : Nat} (h_r0 : F r0 = some (.inr (2, [.ref (r0 + 1), .int ir0_ids]))) (hb_rc2 : rc2 + bc2 ≤ bc) (hs_rs2 : rs2 + bs2 ≤ bs)
    (c2_0 : Cal l X M_Pe_dropDocument bc2 bs2 [.ref r0, .int i1] n F Q2)
    (k5_1 : ∀ v2 n2 F2, Q2 v2 n2 F2 → Ev l X M_Pe_putDeletion rc2 rs2 5 [(0, .ref r0), (1, .int i1)] (v2.toList ++ []) n2 F2 (ev_mq X Q)) :
    Ev l X M_Pe_putDeletion bc bs 0 [(0, .ref r0), (1, .int i1)] [] n F (ev_mq X Q) := by
  refine ev_aload_n (pc := 0) d_Pe_putDeletion_0 rfl ?_
  refine ev_iload_n (pc := 1) d_Pe_putDeletion_1 rfl ?_
  exact ev_invokevirtual (pc := 2) (As := [.int i1]) (st := []) (Q2 := Q2) M_Pe_dropDocument rC2 d_Pe_putDeletion_2 lc_Pe_31 wd_466 wd_s12 rfl h_r0 rfl rfl (Nat.le_of_ble_eq_true rfl) (Nat.le_of_ble_eq_true rfl) (Nat.le_of_ble_eq_true rfl) hb_rc2 hs_rs2 c2_0 k5_1

set_option maxRecDepth 100000 in
set_option maxHeartbeats 4000000 in
theorem s_Pe_putDeletion_5 {l : Launch} {X : ev_X} {bc bs n : Nat} {F : ev_H} {Q : Option Value → Nat → ev_H → Prop} {r0 : Nat} {i1 : Int32} {ir0_ids : Int32} (h_r0 : F r0 = some (.inr (2, [.ref (r0 + 1), .int ir0_ids])))
    (q17_0 : Q none n (ev_up F r0 (.inr (2, [.ref (r0 + 1), .int (ir0_ids ||| ((1 : Int32) <<< (i1 &&& 31)))])))) :
    Ev l X M_Pe_putDeletion bc bs 5 [(0, .ref r0), (1, .int i1)] [] n F (ev_mq X Q) := by
  refine ev_aload_n (pc := 5) d_Pe_putDeletion_5 rfl ?_
  refine ev_dup (pc := 6) d_Pe_putDeletion_6 rfl ?_
  refine ev_getfield (pc := 7) 1 d_Pe_putDeletion_7 fl_Pe_16 h_r0 rfl ?_
  refine ev_iconst (pc := 10) 1 d_Pe_putDeletion_10 (by decide) ?_
  refine ev_iload_n (pc := 11) d_Pe_putDeletion_11 rfl ?_
  refine ev_ishl (pc := 12) d_Pe_putDeletion_12 ?_
  refine ev_ior (pc := 13) d_Pe_putDeletion_13 ?_
  refine ev_putfield (pc := 14) 1 _ d_Pe_putDeletion_14 fl_Pe_16 h_r0 pf_2_ids rfl rfl (Nat.le_of_ble_eq_true rfl) (fun F1_ hF1_ => ?_)
  have g2_ : F1_ r0 = some (.inr (2, [.ref (r0 + 1), .int (ir0_ids ||| ((1 : Int32) <<< (i1 &&& 31)))])) := by rw [← hF1_]; exact ev_up_s
  exact ev_return (pc := 17) d_Pe_putDeletion_17 rfl (by subst hF1_; exact q17_0)
set_option maxRecDepth 100000 in
set_option maxHeartbeats 4000000 in
theorem s_Sh_hasLiveAmong_0 {l : Launch} {X : ev_X} {bc bs n : Nat} {F : ev_H} {Q : Option Value → Nat → ev_H → Prop} {r0 : Nat} {i1 : Int32} 
    (k2_0 : Ev l X M_Sh_hasLiveAmong bc bs 2 [(0, .ref r0), (1, .int i1), (2, .int 0)] [] n F (ev_mq X Q)) :
    Ev l X M_Sh_hasLiveAmong bc bs 0 [(0, .ref r0), (1, .int i1)] [] n F (ev_mq X Q) := by
  refine ev_iconst (pc := 0) 0 d_Sh_hasLiveAmong_0 (by decide) ?_
  refine ev_istore_n (pc := 1) d_Sh_hasLiveAmong_1 (Nat.le_of_ble_eq_true rfl) [1, 2, 0] rfl ?_
  exact k2_0

set_option maxRecDepth 100000 in
set_option maxHeartbeats 4000000 in
theorem s_Sh_hasLiveAmong_2 {l : Launch} {X : ev_X} {bc bs n : Nat} {F : ev_H} {Q : Option Value → Nat → ev_H → Prop} {r0 : Nat} {i1 : Int32} {i2 : Int32} {r0p2_elementData : Nat} {ir0p2_size : Int32} {ir0p2_modCount : Int32} {v7 : Int32} {v18 : Nat} {iv18_id : Int32} {v18_terms : Nat} {v28 : Int32} (h_r0 : F r0 = some (.inr (3, [.ref (r0 + 1), .ref (r0 + 2)]))) (h_r0p2 : F (r0 + 2) = some (.inr (12, [.ref r0p2_elementData, .int ir0p2_size, .int ir0p2_modCount])))
    (c7_0 : Cal l X M_AL_size 0 0 [.ref (r0 + 2)] n F (ev_pure (.int v7) n F))
    (q43_1 : (v7 ≤ i2) → Q (some (.int 0)) n F)
    (c18_2 : (¬ v7 ≤ i2) → Cal l X M_AL_get 0 0 [.ref (r0 + 2), .int i2] n F (ev_pure (.ref v18) n F))
    (hv18_3 : (¬ v7 ≤ i2) → F v18 = some (.inr (8, [.int iv18_id, .ref v18_terms])))
    (c28_4 : (¬ v7 ≤ i2) → Cal l X M_P_isAmong 0 0 [.int iv18_id, .int i1] n F (ev_pure (.int v28) n F))
    (k2_5 : (¬ v7 ≤ i2) → (v28 = 0) → Ev l X M_Sh_hasLiveAmong bc bs 2 [(0, .ref r0), (1, .int i1), (2, .int (i2 + 1))] [] n F (ev_mq X Q))
    (q35_6 : (¬ v7 ≤ i2) → (¬ v28 = 0) → Q (some (.int 1)) n F) :
    Ev l X M_Sh_hasLiveAmong bc bs 2 [(0, .ref r0), (1, .int i1), (2, .int i2)] [] n F (ev_mq X Q) := by
  refine ev_iload_n (pc := 2) d_Sh_hasLiveAmong_2 rfl ?_
  refine ev_aload_n (pc := 3) d_Sh_hasLiveAmong_3 rfl ?_
  refine ev_getfield (pc := 4) 1 d_Sh_hasLiveAmong_4 fl_Sh_16 h_r0 rfl ?_
  refine ev_invokevirtual (pc := 7) (As := []) (st := [.int i2]) (Q2 := ev_pure (.int v7) n F) (bc1 := 0) (bs1 := 0) M_AL_size rC12 d_Sh_hasLiveAmong_7 lc_Sh_19 wd_469 wd_470 rfl h_r0p2 rfl rfl (Nat.le_of_ble_eq_true rfl) (Nat.le_of_ble_eq_true rfl) (Nat.le_of_ble_eq_true rfl) (Nat.le_refl _) (Nat.le_refl _) c7_0 ?_
  refine ev_purek ?_
  refine ev_icmp_ge (pc := 10) 42 d_Sh_hasLiveAmong_10 (by decide) (fun c10 => ?_) (fun c10 => ?_)
  · refine ev_iconst (pc := 42) 0 d_Sh_hasLiveAmong_42 (by decide) ?_
    exact ev_ireturn (pc := 43) d_Sh_hasLiveAmong_43 rfl rfl (q43_1 c10)
  · refine ev_aload_n (pc := 13) d_Sh_hasLiveAmong_13 rfl ?_
    refine ev_getfield (pc := 14) 1 d_Sh_hasLiveAmong_14 fl_Sh_16 h_r0 rfl ?_
    refine ev_iload_n (pc := 17) d_Sh_hasLiveAmong_17 rfl ?_
    refine ev_invokevirtual (pc := 18) (As := [.int i2]) (st := []) (Q2 := ev_pure (.ref v18) n F) (bc1 := 0) (bs1 := 0) M_AL_get rC12 d_Sh_hasLiveAmong_18 lc_Sh_23 wd_473 wd_474 rfl h_r0p2 rfl rfl (Nat.le_of_ble_eq_true rfl) (Nat.le_of_ble_eq_true rfl) (Nat.le_of_ble_eq_true rfl) (Nat.le_refl _) (Nat.le_refl _) (c18_2 c10) ?_
    refine ev_purek ?_
    refine ev_checkcast (pc := 21) rC8 d_Sh_hasLiveAmong_21 wd_579 wd_1203 rfl (hv18_3 c10) ?_
    refine ev_getfield (pc := 24) 0 d_Sh_hasLiveAmong_24 fl_Sh_29 (hv18_3 c10) rfl ?_
    refine ev_iload_n (pc := 27) d_Sh_hasLiveAmong_27 rfl ?_
    refine ev_invokestatic (pc := 28) (As := [.int iv18_id, .int i1]) (st := []) (Q2 := ev_pure (.int v28) n F) (bc1 := 0) (bs1 := 0) M_P_isAmong d_Sh_hasLiveAmong_28 lc_Sh_33 wd_581 rfl rfl (Nat.le_of_ble_eq_true rfl) (Nat.le_of_ble_eq_true rfl) (Nat.le_of_ble_eq_true rfl) (Nat.le_refl _) (Nat.le_refl _) (c28_4 c10) ?_
    refine ev_purek ?_
    refine ev_if_eq (pc := 31) 36 d_Sh_hasLiveAmong_31 (by decide) (fun c31 => ?_) (fun c31 => ?_)
    · refine ev_iinc (pc := 36) 2 1 d_Sh_hasLiveAmong_36 rfl (by decide) (Nat.le_of_ble_eq_true rfl) [1, 2, 0] rfl ?_
      refine ev_goto (pc := 39) 2 d_Sh_hasLiveAmong_39 (by decide) ?_
      exact (k2_5 c10 c31)
    · refine ev_iconst (pc := 34) 1 d_Sh_hasLiveAmong_34 (by decide) ?_
      exact ev_ireturn (pc := 35) d_Sh_hasLiveAmong_35 rfl rfl (q35_6 c10 c31)
set_option maxRecDepth 100000 in
set_option maxHeartbeats 4000000 in
theorem s_Sh_takeIn_0 {l : Launch} {X : ev_X} {bc bs n : Nat} {F : ev_H} {Q : Option Value → Nat → ev_H → Prop} {r0 : Nat} {r1 : Nat} {ir1_ids : Int32} {Q5 : Option Value → Nat → ev_H → Prop} {bc5 : Nat} {bs5 : Nat} {rc5 : Nat} {rs5 : Nat} (h_r1 : F r1 = some (.inr (2, [.ref (r1 + 1), .int ir1_ids]))) (h_r0 : F r0 = some (.inr (3, [.ref (r0 + 1), .ref (r0 + 2)]))) (hb_rc5 : rc5 + bc5 ≤ bc) (hs_rs5 : rs5 + bs5 ≤ bs)
    (c5_0 : Cal l X M_Sh_markDeleted bc5 bs5 [.ref r0, .int ir1_ids] n F Q5)
    (k8_1 : ∀ v2 n2 F2, Q5 v2 n2 F2 → Ev l X M_Sh_takeIn rc5 rs5 8 [(0, .ref r0), (1, .ref r1)] (v2.toList ++ []) n2 F2 (ev_mq X Q)) :
    Ev l X M_Sh_takeIn bc bs 0 [(0, .ref r0), (1, .ref r1)] [] n F (ev_mq X Q) := by
  refine ev_aload_n (pc := 0) d_Sh_takeIn_0 rfl ?_
  refine ev_aload_n (pc := 1) d_Sh_takeIn_1 rfl ?_
  refine ev_getfield (pc := 2) 1 d_Sh_takeIn_2 fl_Sh_39 h_r1 rfl ?_
  exact ev_invokevirtual (pc := 5) (As := [.int ir1_ids]) (st := []) (Q2 := Q5) M_Sh_markDeleted rC3 d_Sh_takeIn_5 lc_Sh_44 wd_597 wd_s18 rfl h_r0 rfl rfl (Nat.le_of_ble_eq_true rfl) (Nat.le_of_ble_eq_true rfl) (Nat.le_of_ble_eq_true rfl) hb_rc5 hs_rs5 c5_0 k8_1

set_option maxRecDepth 100000 in
set_option maxHeartbeats 4000000 in
theorem s_Sh_takeIn_8 {l : Launch} {X : ev_X} {bc bs n : Nat} {F : ev_H} {Q : Option Value → Nat → ev_H → Prop} {r0 : Nat} {r1 : Nat} {ir1_ids : Int32} {r1p1_elementData : Nat} {ir1p1_size : Int32} {ir1p1_modCount : Int32} {v12 : Int32} {Q23 : Option Value → Nat → ev_H → Prop} {bc23 : Nat} {bs23 : Nat} {rc23 : Nat} {rs23 : Nat} (h_r1 : F r1 = some (.inr (2, [.ref (r1 + 1), .int ir1_ids]))) (h_r1p1 : F (r1 + 1) = some (.inr (12, [.ref r1p1_elementData, .int ir1p1_size, .int ir1p1_modCount]))) (h_r0 : F r0 = some (.inr (3, [.ref (r0 + 1), .ref (r0 + 2)]))) (hb_rc23 : rc23 + bc23 ≤ bc) (hs_rs23 : rs23 + bs23 ≤ bs)
    (c12_0 : Cal l X M_AL_isEmpty 0 0 [.ref (r1 + 1)] n F (ev_pure (.int v12) n F))
    (q26_1 : (¬ v12 = 0) → Q none n F)
    (c23_2 : (v12 = 0) → Cal l X M_Sh_appendSegment bc23 bs23 [.ref r0, .ref (r1 + 1)] n F Q23)
    (k26_3 : (v12 = 0) → ∀ v2 n2 F2, Q23 v2 n2 F2 → Ev l X M_Sh_takeIn rc23 rs23 26 [(0, .ref r0), (1, .ref r1)] (v2.toList ++ []) n2 F2 (ev_mq X Q)) :
    Ev l X M_Sh_takeIn bc bs 8 [(0, .ref r0), (1, .ref r1)] [] n F (ev_mq X Q) := by
  refine ev_aload_n (pc := 8) d_Sh_takeIn_8 rfl ?_
  refine ev_getfield (pc := 9) 0 d_Sh_takeIn_9 fl_Sh_48 h_r1 rfl ?_
  refine ev_invokevirtual (pc := 12) (As := []) (st := []) (Q2 := ev_pure (.int v12) n F) (bc1 := 0) (bs1 := 0) M_AL_isEmpty rC12 d_Sh_takeIn_12 lc_Sh_51 wd_569 wd_570 rfl h_r1p1 rfl rfl (Nat.le_of_ble_eq_true rfl) (Nat.le_of_ble_eq_true rfl) (Nat.le_of_ble_eq_true rfl) (Nat.le_refl _) (Nat.le_refl _) c12_0 ?_
  refine ev_purek ?_
  refine ev_if_ne (pc := 15) 26 d_Sh_takeIn_15 (by decide) (fun c15 => ?_) (fun c15 => ?_)
  · exact ev_return (pc := 26) d_Sh_takeIn_26 rfl (q26_1 c15)
  · refine ev_aload_n (pc := 18) d_Sh_takeIn_18 rfl ?_
    refine ev_aload_n (pc := 19) d_Sh_takeIn_19 rfl ?_
    refine ev_getfield (pc := 20) 0 d_Sh_takeIn_20 fl_Sh_48 h_r1 rfl ?_
    exact ev_invokevirtual (pc := 23) (As := [.ref (r1 + 1)]) (st := []) (Q2 := Q23) M_Sh_appendSegment rC3 d_Sh_takeIn_23 lc_Sh_55 wd_604 wd_s19 rfl h_r0 rfl rfl (Nat.le_of_ble_eq_true rfl) (Nat.le_of_ble_eq_true rfl) (Nat.le_of_ble_eq_true rfl) hb_rc23 hs_rs23 (c23_2 c15) (k26_3 c15)

set_option maxRecDepth 100000 in
set_option maxHeartbeats 4000000 in
theorem s_Sh_takeIn_26 {l : Launch} {X : ev_X} {bc bs n : Nat} {F : ev_H} {Q : Option Value → Nat → ev_H → Prop} {r0 : Nat} {r1 : Nat} 
    (q26_0 : Q none n F) :
    Ev l X M_Sh_takeIn bc bs 26 [(0, .ref r0), (1, .ref r1)] [] n F (ev_mq X Q) := by
  exact ev_return (pc := 26) d_Sh_takeIn_26 rfl q26_0
set_option maxRecDepth 100000 in
set_option maxHeartbeats 4000000 in
theorem s_Sh_markDeleted_0 {l : Launch} {X : ev_X} {bc bs n : Nat} {F : ev_H} {Q : Option Value → Nat → ev_H → Prop} {r0 : Nat} {i1 : Int32} 
    (k2_0 : Ev l X M_Sh_markDeleted bc bs 2 [(0, .ref r0), (1, .int i1), (2, .int 0)] [] n F (ev_mq X Q)) :
    Ev l X M_Sh_markDeleted bc bs 0 [(0, .ref r0), (1, .int i1)] [] n F (ev_mq X Q) := by
  refine ev_iconst (pc := 0) 0 d_Sh_markDeleted_0 (by decide) ?_
  refine ev_istore_n (pc := 1) d_Sh_markDeleted_1 (Nat.le_of_ble_eq_true rfl) [1, 2, 0] rfl ?_
  exact k2_0

set_option maxRecDepth 100000 in
set_option maxHeartbeats 4000000 in
theorem s_Sh_markDeleted_2 {l : Launch} {X : ev_X} {bc bs n : Nat} {F : ev_H} {Q : Option Value → Nat → ev_H → Prop} {r0 : Nat} {i1 : Int32} {i2 : Int32} {r0p1_elementData : Nat} {ir0p1_size : Int32} {ir0p1_modCount : Int32} {v7 : Int32} {r0p2_elementData : Nat} {ir0p2_size : Int32} {ir0p2_modCount : Int32} {v43 : Int32} {v18 : Nat} {iv18_deletedIds : Int32} (h_r0 : F r0 = some (.inr (3, [.ref (r0 + 1), .ref (r0 + 2)]))) (h_r0p1 : F (r0 + 1) = some (.inr (12, [.ref r0p1_elementData, .int ir0p1_size, .int ir0p1_modCount]))) (h_r0p2 : F (r0 + 2) = some (.inr (12, [.ref r0p2_elementData, .int ir0p2_size, .int ir0p2_modCount])))
    (c7_0 : Cal l X M_AL_size 0 0 [.ref (r0 + 1)] n F (ev_pure (.int v7) n F))
    (c43_1 : (v7 ≤ i2) → Cal l X M_AL_size 0 0 [.ref (r0 + 2)] n F (ev_pure (.int v43) n F))
    (k49_2 : (v7 ≤ i2) → Ev l X M_Sh_markDeleted bc bs 49 [(0, .ref r0), (1, .int i1), (2, .int (v43 - 1))] [] n F (ev_mq X Q))
    (c18_3 : (¬ v7 ≤ i2) → Cal l X M_AL_get 0 0 [.ref (r0 + 1), .int i2] n F (ev_pure (.ref v18) n F))
    (hv18_4 : (¬ v7 ≤ i2) → F v18 = some (.inr (9, [.ref (v18 + 1), .int iv18_deletedIds])))
    (k2_5 : (¬ v7 ≤ i2) → Ev l X M_Sh_markDeleted bc bs 2 [(0, .ref r0), (1, .int i1), (2, .int (i2 + 1))] [] n (ev_up F v18 (.inr (9, [.ref (v18 + 1), .int (iv18_deletedIds ||| i1)]))) (ev_mq X Q)) :
    Ev l X M_Sh_markDeleted bc bs 2 [(0, .ref r0), (1, .int i1), (2, .int i2)] [] n F (ev_mq X Q) := by
  refine ev_iload_n (pc := 2) d_Sh_markDeleted_2 rfl ?_
  refine ev_aload_n (pc := 3) d_Sh_markDeleted_3 rfl ?_
  refine ev_getfield (pc := 4) 0 d_Sh_markDeleted_4 fl_Sh_10 h_r0 rfl ?_
  refine ev_invokevirtual (pc := 7) (As := []) (st := [.int i2]) (Q2 := ev_pure (.int v7) n F) (bc1 := 0) (bs1 := 0) M_AL_size rC12 d_Sh_markDeleted_7 lc_Sh_19 wd_469 wd_470 rfl h_r0p1 rfl rfl (Nat.le_of_ble_eq_true rfl) (Nat.le_of_ble_eq_true rfl) (Nat.le_of_ble_eq_true rfl) (Nat.le_refl _) (Nat.le_refl _) c7_0 ?_
  refine ev_purek ?_
  refine ev_icmp_ge (pc := 10) 39 d_Sh_markDeleted_10 (by decide) (fun c10 => ?_) (fun c10 => ?_)
  · refine ev_aload_n (pc := 39) d_Sh_markDeleted_39 rfl ?_
    refine ev_getfield (pc := 40) 1 d_Sh_markDeleted_40 fl_Sh_16 h_r0 rfl ?_
    refine ev_invokevirtual (pc := 43) (As := []) (st := []) (Q2 := ev_pure (.int v43) n F) (bc1 := 0) (bs1 := 0) M_AL_size rC12 d_Sh_markDeleted_43 lc_Sh_19 wd_469 wd_470 rfl h_r0p2 rfl rfl (Nat.le_of_ble_eq_true rfl) (Nat.le_of_ble_eq_true rfl) (Nat.le_of_ble_eq_true rfl) (Nat.le_refl _) (Nat.le_refl _) (c43_1 c10) ?_
    refine ev_purek ?_
    refine ev_iconst (pc := 46) 1 d_Sh_markDeleted_46 (by decide) ?_
    refine ev_isub (pc := 47) d_Sh_markDeleted_47 ?_
    refine ev_istore_n (pc := 48) d_Sh_markDeleted_48 (Nat.le_of_ble_eq_true rfl) [1, 2, 0] rfl ?_
    exact (k49_2 c10)
  · refine ev_aload_n (pc := 13) d_Sh_markDeleted_13 rfl ?_
    refine ev_getfield (pc := 14) 0 d_Sh_markDeleted_14 fl_Sh_10 h_r0 rfl ?_
    refine ev_iload_n (pc := 17) d_Sh_markDeleted_17 rfl ?_
    refine ev_invokevirtual (pc := 18) (As := [.int i2]) (st := []) (Q2 := ev_pure (.ref v18) n F) (bc1 := 0) (bs1 := 0) M_AL_get rC12 d_Sh_markDeleted_18 lc_Sh_23 wd_473 wd_474 rfl h_r0p1 rfl rfl (Nat.le_of_ble_eq_true rfl) (Nat.le_of_ble_eq_true rfl) (Nat.le_of_ble_eq_true rfl) (Nat.le_refl _) (Nat.le_refl _) (c18_3 c10) ?_
    refine ev_purek ?_
    refine ev_checkcast (pc := 21) rC9 d_Sh_markDeleted_21 wd_599 wd_1204 rfl (hv18_4 c10) ?_
    refine ev_dup (pc := 24) d_Sh_markDeleted_24 rfl ?_
    refine ev_getfield (pc := 25) 1 d_Sh_markDeleted_25 fl_Sh_61 (hv18_4 c10) rfl ?_
    refine ev_iload_n (pc := 28) d_Sh_markDeleted_28 rfl ?_
    refine ev_ior (pc := 29) d_Sh_markDeleted_29 ?_
    refine ev_putfield (pc := 30) 1 _ d_Sh_markDeleted_30 fl_Sh_61 (hv18_4 c10) pf_9_deletedIds rfl rfl (Nat.le_of_ble_eq_true rfl) (fun F1_ hF1_ => ?_)
    have g2_ : F1_ r0 = some (.inr (3, [.ref (r0 + 1), .ref (r0 + 2)])) := by rw [← hF1_]; exact ev_up_k (ev_ne_oo h_r0 (hv18_4 c10) rfl) h_r0
    have g3_ : F1_ (r0 + 1) = some (.inr (12, [.ref r0p1_elementData, .int ir0p1_size, .int ir0p1_modCount])) := by rw [← hF1_]; exact ev_up_k (ev_ne_oo h_r0p1 (hv18_4 c10) rfl) h_r0p1
    have g4_ : F1_ v18 = some (.inr (9, [.ref (v18 + 1), .int (iv18_deletedIds ||| i1)])) := by rw [← hF1_]; exact ev_up_s
    refine ev_iinc (pc := 33) 2 1 d_Sh_markDeleted_33 rfl (by decide) (Nat.le_of_ble_eq_true rfl) [1, 2, 0] rfl ?_
    refine ev_goto (pc := 36) 2 d_Sh_markDeleted_36 (by decide) ?_
    exact (by subst hF1_; exact (k2_5 c10))

set_option maxRecDepth 100000 in
set_option maxHeartbeats 4000000 in
theorem s_Sh_markDeleted_49 {l : Launch} {X : ev_X} {bc bs n : Nat} {F : ev_H} {Q : Option Value → Nat → ev_H → Prop} {r0 : Nat} {i1 : Int32} {i2 : Int32} {r0p2_elementData : Nat} {ir0p2_size : Int32} {ir0p2_modCount : Int32} {v58 : Nat} {iv58_id : Int32} {v58_terms : Nat} {v68 : Int32} {Q79 : Option Value → Nat → ev_H → Prop} {bc79 : Nat} {bs79 : Nat} {rc79 : Nat} {rs79 : Nat} (h_r0 : F r0 = some (.inr (3, [.ref (r0 + 1), .ref (r0 + 2)]))) (h_r0p2 : F (r0 + 2) = some (.inr (12, [.ref r0p2_elementData, .int ir0p2_size, .int ir0p2_modCount]))) (hb_rc79 : rc79 + bc79 ≤ bc) (hs_rs79 : rs79 + bs79 ≤ bs)
    (q89_0 : (i2 < 0) → Q none n F)
    (c58_1 : (¬ i2 < 0) → Cal l X M_AL_get 0 0 [.ref (r0 + 2), .int i2] n F (ev_pure (.ref v58) n F))
    (hv58_2 : (¬ i2 < 0) → F v58 = some (.inr (8, [.int iv58_id, .ref v58_terms])))
    (c68_3 : (¬ i2 < 0) → Cal l X M_P_isAmong 0 0 [.int iv58_id, .int i1] n F (ev_pure (.int v68) n F))
    (k49_4 : (¬ i2 < 0) → (v68 = 0) → Ev l X M_Sh_markDeleted bc bs 49 [(0, .ref r0), (1, .int i1), (2, .int (i2 + (-1)))] [] n F (ev_mq X Q))
    (c79_5 : (¬ i2 < 0) → (¬ v68 = 0) → Cal l X M_AL_remove bc79 bs79 [.ref (r0 + 2), .int i2] n F Q79)
    (k82_6 : (¬ i2 < 0) → (¬ v68 = 0) → ∀ v2 n2 F2, Q79 v2 n2 F2 → Ev l X M_Sh_markDeleted rc79 rs79 82 [(0, .ref r0), (1, .int i1), (2, .int i2)] (v2.toList ++ []) n2 F2 (ev_mq X Q)) :
    Ev l X M_Sh_markDeleted bc bs 49 [(0, .ref r0), (1, .int i1), (2, .int i2)] [] n F (ev_mq X Q) := by
  refine ev_iload_n (pc := 49) d_Sh_markDeleted_49 rfl ?_
  refine ev_if_lt (pc := 50) 89 d_Sh_markDeleted_50 (by decide) (fun c50 => ?_) (fun c50 => ?_)
  · exact ev_return (pc := 89) d_Sh_markDeleted_89 rfl (q89_0 c50)
  · refine ev_aload_n (pc := 53) d_Sh_markDeleted_53 rfl ?_
    refine ev_getfield (pc := 54) 1 d_Sh_markDeleted_54 fl_Sh_16 h_r0 rfl ?_
    refine ev_iload_n (pc := 57) d_Sh_markDeleted_57 rfl ?_
    refine ev_invokevirtual (pc := 58) (As := [.int i2]) (st := []) (Q2 := ev_pure (.ref v58) n F) (bc1 := 0) (bs1 := 0) M_AL_get rC12 d_Sh_markDeleted_58 lc_Sh_23 wd_473 wd_474 rfl h_r0p2 rfl rfl (Nat.le_of_ble_eq_true rfl) (Nat.le_of_ble_eq_true rfl) (Nat.le_of_ble_eq_true rfl) (Nat.le_refl _) (Nat.le_refl _) (c58_1 c50) ?_
    refine ev_purek ?_
    refine ev_checkcast (pc := 61) rC8 d_Sh_markDeleted_61 wd_579 wd_1203 rfl (hv58_2 c50) ?_
    refine ev_getfield (pc := 64) 0 d_Sh_markDeleted_64 fl_Sh_29 (hv58_2 c50) rfl ?_
    refine ev_iload_n (pc := 67) d_Sh_markDeleted_67 rfl ?_
    refine ev_invokestatic (pc := 68) (As := [.int iv58_id, .int i1]) (st := []) (Q2 := ev_pure (.int v68) n F) (bc1 := 0) (bs1 := 0) M_P_isAmong d_Sh_markDeleted_68 lc_Sh_33 wd_581 rfl rfl (Nat.le_of_ble_eq_true rfl) (Nat.le_of_ble_eq_true rfl) (Nat.le_of_ble_eq_true rfl) (Nat.le_refl _) (Nat.le_refl _) (c68_3 c50) ?_
    refine ev_purek ?_
    refine ev_if_eq (pc := 71) 83 d_Sh_markDeleted_71 (by decide) (fun c71 => ?_) (fun c71 => ?_)
    · refine ev_iinc (pc := 83) 2 (-1) d_Sh_markDeleted_83 rfl (by decide) (Nat.le_of_ble_eq_true rfl) [1, 2, 0] rfl ?_
      refine ev_goto (pc := 86) 49 d_Sh_markDeleted_86 (by decide) ?_
      exact (k49_4 c50 c71)
    · refine ev_aload_n (pc := 74) d_Sh_markDeleted_74 rfl ?_
      refine ev_getfield (pc := 75) 1 d_Sh_markDeleted_75 fl_Sh_16 h_r0 rfl ?_
      refine ev_iload_n (pc := 78) d_Sh_markDeleted_78 rfl ?_
      exact ev_invokevirtual (pc := 79) (As := [.int i2]) (st := []) (Q2 := Q79) M_AL_remove rC12 d_Sh_markDeleted_79 lc_Sh_64 wd_486 wd_487 rfl h_r0p2 rfl rfl (Nat.le_of_ble_eq_true rfl) (Nat.le_of_ble_eq_true rfl) (Nat.le_of_ble_eq_true rfl) hb_rc79 hs_rs79 (c79_5 c50 c71) (k82_6 c50 c71)

set_option maxRecDepth 100000 in
set_option maxHeartbeats 4000000 in
theorem s_Sh_markDeleted_82 {l : Launch} {X : ev_X} {bc bs n : Nat} {F : ev_H} {Q : Option Value → Nat → ev_H → Prop} {r0 : Nat} {i1 : Int32} {i2 : Int32} {rs0 : Nat} 
    (k49_0 : Ev l X M_Sh_markDeleted bc bs 49 [(0, .ref r0), (1, .int i1), (2, .int (i2 + (-1)))] [] n F (ev_mq X Q)) :
    Ev l X M_Sh_markDeleted bc bs 82 [(0, .ref r0), (1, .int i1), (2, .int i2)] [.ref rs0] n F (ev_mq X Q) := by
  refine ev_pop (pc := 82) d_Sh_markDeleted_82 rfl ?_
  refine ev_iinc (pc := 83) 2 (-1) d_Sh_markDeleted_83 rfl (by decide) (Nat.le_of_ble_eq_true rfl) [1, 2, 0] rfl ?_
  refine ev_goto (pc := 86) 49 d_Sh_markDeleted_86 (by decide) ?_
  exact k49_0
set_option maxRecDepth 100000 in
set_option maxHeartbeats 4000000 in
theorem s_Sh_appendSegment_0 {l : Launch} {X : ev_X} {bc bs n : Nat} {F : ev_H} {Q : Option Value → Nat → ev_H → Prop} {r0 : Nat} {r1 : Nat} {rc0 : Nat} {rs0 : Nat} {Q4 : Option Value → Nat → ev_H → Prop} {bc4 : Nat} {bs4 : Nat} {rc4 : Nat} {rs4 : Nat} (hb_rc0 : rc0 + 1 ≤ bc) (hs_rs0 : rs0 + 2 ≤ bs) (hb_rc4 : rc4 + bc4 ≤ rc0) (hs_rs4 : rs4 + bs4 ≤ rs0)
    (c4_0 : Cal l X M_Sg_init bc4 bs4 [.ref n] (n + 1) (ev_up F n (.inr (9, [.null, .int 0]))) Q4)
    (k7_1 : ∀ v2 n2 F2, Q4 v2 n2 F2 → Ev l X M_Sh_appendSegment rc4 rs4 7 [(0, .ref r0), (1, .ref r1)] (v2.toList ++ [.ref n]) n2 F2 (ev_mq X Q)) :
    Ev l X M_Sh_appendSegment bc bs 0 [(0, .ref r0), (1, .ref r1)] [] n F (ev_mq X Q) := by
  refine ev_fresh fun fr0 => ?_
  refine ev_new (pc := 0) 9 [.null, .int 0] d_Sh_appendSegment_0 ck_9 wd_599 wd_606 wd_25 (by decide +kernel) (bc2 := rc0) (bs2 := rs0) hb_rc0 hs_rs0 (fun F1_ hF1_ => ?_)
  have g2_ : F1_ n = some (.inr (9, [.null, .int 0])) := by rw [← hF1_]; exact ev_up_s
  refine ev_dup (pc := 3) d_Sh_appendSegment_3 rfl ?_
  exact ev_init (pc := 4) (As := []) (st := [.ref n]) (Q2 := Q4) M_Sg_init d_Sh_appendSegment_4 lc_Sh_67 rfl rfl wd_608 rfl rfl (Nat.le_of_ble_eq_true rfl) (Nat.le_of_ble_eq_true rfl) (Nat.le_of_ble_eq_true rfl) hb_rc4 hs_rs4 (by subst hF1_; exact c4_0) k7_1

set_option maxRecDepth 100000 in
set_option maxHeartbeats 4000000 in
theorem s_Sh_appendSegment_10 {l : Launch} {X : ev_X} {bc bs n : Nat} {F : ev_H} {Q : Option Value → Nat → ev_H → Prop} {r0 : Nat} {r1 : Nat} {r2 : Nat} {i3 : Int32} {r1_elementData : Nat} {ir1_size : Int32} {ir1_modCount : Int32} {v12 : Int32} {r0p1_elementData : Nat} {ir0p1_size : Int32} {ir0p1_modCount : Int32} {Q57 : Option Value → Nat → ev_H → Prop} {bc57 : Nat} {bs57 : Nat} {rc57 : Nat} {rs57 : Nat} {ir2_deletedIds : Int32} {v24 : Nat} {iv24_id : Int32} {v24_terms : Nat} {r2p1_elementData : Nat} {ir2p1_size : Int32} {ir2p1_modCount : Int32} {Q30 : Option Value → Nat → ev_H → Prop} {bc30 : Nat} {bs30 : Nat} {rc30 : Nat} {rs30 : Nat} (h_r1 : F r1 = some (.inr (12, [.ref r1_elementData, .int ir1_size, .int ir1_modCount]))) (h_r0 : F r0 = some (.inr (3, [.ref (r0 + 1), .ref (r0 + 2)]))) (h_r0p1 : F (r0 + 1) = some (.inr (12, [.ref r0p1_elementData, .int ir0p1_size, .int ir0p1_modCount]))) (hb_rc57 : rc57 + bc57 ≤ bc) (hs_rs57 : rs57 + bs57 ≤ bs) (h_r2 : F r2 = some (.inr (9, [.ref (r2 + 1), .int ir2_deletedIds]))) (h_r2p1 : F (r2 + 1) = some (.inr (12, [.ref r2p1_elementData, .int ir2p1_size, .int ir2p1_modCount]))) (hb_rc30 : rc30 + bc30 ≤ bc) (hs_rs30 : rs30 + bs30 ≤ bs)
    (c12_0 : Cal l X M_AL_size 0 0 [.ref r1] n F (ev_pure (.int v12) n F))
    (c57_1 : (v12 ≤ i3) → Cal l X M_AL_add bc57 bs57 [.ref (r0 + 1), .ref r2] n F Q57)
    (k60_2 : (v12 ≤ i3) → ∀ v2 n2 F2, Q57 v2 n2 F2 → Ev l X M_Sh_appendSegment rc57 rs57 60 [(0, .ref r0), (1, .ref r1), (2, .ref r2), (3, .int i3)] (v2.toList ++ []) n2 F2 (ev_mq X Q))
    (c24_3 : (¬ v12 ≤ i3) → Cal l X M_AL_get 0 0 [.ref r1, .int i3] n F (ev_pure (.ref v24) n F))
    (hv24_4 : (¬ v12 ≤ i3) → F v24 = some (.inr (8, [.int iv24_id, .ref v24_terms])))
    (c30_5 : (¬ v12 ≤ i3) → Cal l X M_AL_add bc30 bs30 [.ref (r2 + 1), .ref v24] n F Q30)
    (k33_6 : (¬ v12 ≤ i3) → ∀ v2 n2 F2, Q30 v2 n2 F2 → Ev l X M_Sh_appendSegment rc30 rs30 33 [(0, .ref r0), (1, .ref r1), (2, .ref r2), (3, .int i3)] (v2.toList ++ []) n2 F2 (ev_mq X Q)) :
    Ev l X M_Sh_appendSegment bc bs 10 [(0, .ref r0), (1, .ref r1), (2, .ref r2), (3, .int i3)] [] n F (ev_mq X Q) := by
  refine ev_iload_n (pc := 10) d_Sh_appendSegment_10 rfl ?_
  refine ev_aload_n (pc := 11) d_Sh_appendSegment_11 rfl ?_
  refine ev_invokevirtual (pc := 12) (As := []) (st := [.int i3]) (Q2 := ev_pure (.int v12) n F) (bc1 := 0) (bs1 := 0) M_AL_size rC12 d_Sh_appendSegment_12 lc_Sh_19 wd_469 wd_470 rfl h_r1 rfl rfl (Nat.le_of_ble_eq_true rfl) (Nat.le_of_ble_eq_true rfl) (Nat.le_of_ble_eq_true rfl) (Nat.le_refl _) (Nat.le_refl _) c12_0 ?_
  refine ev_purek ?_
  refine ev_icmp_ge (pc := 15) 52 d_Sh_appendSegment_15 (by decide) (fun c15 => ?_) (fun c15 => ?_)
  · refine ev_aload_n (pc := 52) d_Sh_appendSegment_52 rfl ?_
    refine ev_getfield (pc := 53) 0 d_Sh_appendSegment_53 fl_Sh_10 h_r0 rfl ?_
    refine ev_aload_n (pc := 56) d_Sh_appendSegment_56 rfl ?_
    exact ev_invokevirtual (pc := 57) (As := [.ref r2]) (st := []) (Q2 := Q57) M_AL_add rC12 d_Sh_appendSegment_57 lc_Sh_69 wd_495 wd_496 rfl h_r0p1 rfl rfl (Nat.le_of_ble_eq_true rfl) (Nat.le_of_ble_eq_true rfl) (Nat.le_of_ble_eq_true rfl) hb_rc57 hs_rs57 (c57_1 c15) (k60_2 c15)
  · refine ev_aload_n (pc := 18) d_Sh_appendSegment_18 rfl ?_
    refine ev_getfield (pc := 19) 0 d_Sh_appendSegment_19 fl_Sh_68 h_r2 rfl ?_
    refine ev_aload_n (pc := 22) d_Sh_appendSegment_22 rfl ?_
    refine ev_iload_n (pc := 23) d_Sh_appendSegment_23 rfl ?_
    refine ev_invokevirtual (pc := 24) (As := [.int i3]) (st := [.ref (r2 + 1)]) (Q2 := ev_pure (.ref v24) n F) (bc1 := 0) (bs1 := 0) M_AL_get rC12 d_Sh_appendSegment_24 lc_Sh_23 wd_473 wd_474 rfl h_r1 rfl rfl (Nat.le_of_ble_eq_true rfl) (Nat.le_of_ble_eq_true rfl) (Nat.le_of_ble_eq_true rfl) (Nat.le_refl _) (Nat.le_refl _) (c24_3 c15) ?_
    refine ev_purek ?_
    refine ev_checkcast (pc := 27) rC8 d_Sh_appendSegment_27 wd_579 wd_1203 rfl (hv24_4 c15) ?_
    exact ev_invokevirtual (pc := 30) (As := [.ref v24]) (st := []) (Q2 := Q30) M_AL_add rC12 d_Sh_appendSegment_30 lc_Sh_69 wd_495 wd_496 rfl h_r2p1 rfl rfl (Nat.le_of_ble_eq_true rfl) (Nat.le_of_ble_eq_true rfl) (Nat.le_of_ble_eq_true rfl) hb_rc30 hs_rs30 (c30_5 c15) (k33_6 c15)

set_option maxRecDepth 100000 in
set_option maxHeartbeats 4000000 in
theorem s_Sh_appendSegment_7 {l : Launch} {X : ev_X} {bc bs n : Nat} {F : ev_H} {Q : Option Value → Nat → ev_H → Prop} {r0 : Nat} {r1 : Nat} {rs0 : Nat} 
    (k10_0 : Ev l X M_Sh_appendSegment bc bs 10 [(0, .ref r0), (1, .ref r1), (2, .ref rs0), (3, .int 0)] [] n F (ev_mq X Q)) :
    Ev l X M_Sh_appendSegment bc bs 7 [(0, .ref r0), (1, .ref r1)] [.ref rs0] n F (ev_mq X Q) := by
  refine ev_astore_n (pc := 7) d_Sh_appendSegment_7 (Nat.le_of_ble_eq_true rfl) [1, 2, 0] rfl ?_
  refine ev_iconst (pc := 8) 0 d_Sh_appendSegment_8 (by decide) ?_
  refine ev_istore_n (pc := 9) d_Sh_appendSegment_9 (Nat.le_of_ble_eq_true rfl) [1, 2, 3, 0] rfl ?_
  exact k10_0

set_option maxRecDepth 100000 in
set_option maxHeartbeats 4000000 in
theorem s_Sh_appendSegment_33 {l : Launch} {X : ev_X} {bc bs n : Nat} {F : ev_H} {Q : Option Value → Nat → ev_H → Prop} {r0 : Nat} {r1 : Nat} {r2 : Nat} {i3 : Int32} {is0 : Int32} {r1_elementData : Nat} {ir1_size : Int32} {ir1_modCount : Int32} {v37 : Nat} {iv37_id : Int32} {v37_terms : Nat} {Q43 : Option Value → Nat → ev_H → Prop} {bc43 : Nat} {bs43 : Nat} {rc43 : Nat} {rs43 : Nat} (h_r1 : F r1 = some (.inr (12, [.ref r1_elementData, .int ir1_size, .int ir1_modCount]))) (h_v37 : F v37 = some (.inr (8, [.int iv37_id, .ref v37_terms]))) (h_r0 : F r0 = some (.inr (3, [.ref (r0 + 1), .ref (r0 + 2)]))) (hb_rc43 : rc43 + bc43 ≤ bc) (hs_rs43 : rs43 + bs43 ≤ bs)
    (c37_0 : Cal l X M_AL_get 0 0 [.ref r1, .int i3] n F (ev_pure (.ref v37) n F))
    (c43_1 : Cal l X M_Sh_insertLive bc43 bs43 [.ref r0, .ref v37] n F Q43)
    (k46_2 : ∀ v2 n2 F2, Q43 v2 n2 F2 → Ev l X M_Sh_appendSegment rc43 rs43 46 [(0, .ref r0), (1, .ref r1), (2, .ref r2), (3, .int i3)] (v2.toList ++ []) n2 F2 (ev_mq X Q)) :
    Ev l X M_Sh_appendSegment bc bs 33 [(0, .ref r0), (1, .ref r1), (2, .ref r2), (3, .int i3)] [.int is0] n F (ev_mq X Q) := by
  refine ev_pop (pc := 33) d_Sh_appendSegment_33 rfl ?_
  refine ev_aload_n (pc := 34) d_Sh_appendSegment_34 rfl ?_
  refine ev_aload_n (pc := 35) d_Sh_appendSegment_35 rfl ?_
  refine ev_iload_n (pc := 36) d_Sh_appendSegment_36 rfl ?_
  refine ev_invokevirtual (pc := 37) (As := [.int i3]) (st := [.ref r0]) (Q2 := ev_pure (.ref v37) n F) (bc1 := 0) (bs1 := 0) M_AL_get rC12 d_Sh_appendSegment_37 lc_Sh_23 wd_473 wd_474 rfl h_r1 rfl rfl (Nat.le_of_ble_eq_true rfl) (Nat.le_of_ble_eq_true rfl) (Nat.le_of_ble_eq_true rfl) (Nat.le_refl _) (Nat.le_refl _) c37_0 ?_
  refine ev_purek ?_
  refine ev_checkcast (pc := 40) rC8 d_Sh_appendSegment_40 wd_579 wd_1203 rfl h_v37 ?_
  exact ev_invokevirtual (pc := 43) (As := [.ref v37]) (st := []) (Q2 := Q43) M_Sh_insertLive rC3 d_Sh_appendSegment_43 lc_Sh_73 wd_626 wd_s20 rfl h_r0 rfl rfl (Nat.le_of_ble_eq_true rfl) (Nat.le_of_ble_eq_true rfl) (Nat.le_of_ble_eq_true rfl) hb_rc43 hs_rs43 c43_1 k46_2

set_option maxRecDepth 100000 in
set_option maxHeartbeats 4000000 in
theorem s_Sh_appendSegment_60 {l : Launch} {X : ev_X} {bc bs n : Nat} {F : ev_H} {Q : Option Value → Nat → ev_H → Prop} {r0 : Nat} {r1 : Nat} {r2 : Nat} {i3 : Int32} {is0 : Int32} 
    (q61_0 : Q none n F) :
    Ev l X M_Sh_appendSegment bc bs 60 [(0, .ref r0), (1, .ref r1), (2, .ref r2), (3, .int i3)] [.int is0] n F (ev_mq X Q) := by
  refine ev_pop (pc := 60) d_Sh_appendSegment_60 rfl ?_
  exact ev_return (pc := 61) d_Sh_appendSegment_61 rfl q61_0

set_option maxRecDepth 100000 in
set_option maxHeartbeats 4000000 in
theorem s_Sh_appendSegment_46 {l : Launch} {X : ev_X} {bc bs n : Nat} {F : ev_H} {Q : Option Value → Nat → ev_H → Prop} {r0 : Nat} {r1 : Nat} {r2 : Nat} {i3 : Int32} 
    (k10_0 : Ev l X M_Sh_appendSegment bc bs 10 [(0, .ref r0), (1, .ref r1), (2, .ref r2), (3, .int (i3 + 1))] [] n F (ev_mq X Q)) :
    Ev l X M_Sh_appendSegment bc bs 46 [(0, .ref r0), (1, .ref r1), (2, .ref r2), (3, .int i3)] [] n F (ev_mq X Q) := by
  refine ev_iinc (pc := 46) 3 1 d_Sh_appendSegment_46 rfl (by decide) (Nat.le_of_ble_eq_true rfl) [1, 2, 3, 0] rfl ?_
  refine ev_goto (pc := 49) 10 d_Sh_appendSegment_49 (by decide) ?_
  exact k10_0
set_option maxRecDepth 100000 in
set_option maxHeartbeats 4000000 in
theorem s_Sg_init_0 {l : Launch} {X : ev_X} {bc bs n : Nat} {F : ev_H} {Q : Option Value → Nat → ev_H → Prop} {r0 : Nat} {rc5 : Nat} {rs5 : Nat} {Q9 : Option Value → Nat → ev_H → Prop} {bc9 : Nat} {bs9 : Nat} {rc9 : Nat} {rs9 : Nat} (hb_rc5 : rc5 + 1 ≤ bc) (hs_rs5 : rs5 + 3 ≤ bs) (hb_rc9 : rc9 + bc9 ≤ rc5) (hs_rs9 : rs9 + bs9 ≤ rs5)
    (c9_0 : Cal l X M_AL_init bc9 bs9 [.ref n] (n + 1) (ev_up F n (.inr (12, [.null, .int 0, .int 0]))) Q9)
    (k12_1 : ∀ v2 n2 F2, Q9 v2 n2 F2 → Ev l X M_Sg_init rc9 rs9 12 [(0, .ref r0)] (v2.toList ++ [.ref n, .ref r0]) n2 F2 (ev_mq X Q)) :
    Ev l X M_Sg_init bc bs 0 [(0, .ref r0)] [] n F (ev_mq X Q) := by
  refine ev_aload_n (pc := 0) d_Sg_init_0 rfl ?_
  refine ev_objInit (pc := 1) d_Sg_init_1 wd_610 wd_33 wd_34 (Nat.le_of_ble_eq_true rfl) (Nat.le_of_ble_eq_true rfl) ?_
  refine ev_aload_n (pc := 4) d_Sg_init_4 rfl ?_
  refine ev_fresh fun fr5 => ?_
  refine ev_new (pc := 5) 12 [.null, .int 0, .int 0] d_Sg_init_5 ck_12 wd_611 wd_60 wd_6 (by decide +kernel) (bc2 := rc5) (bs2 := rs5) hb_rc5 hs_rs5 (fun F1_ hF1_ => ?_)
  have g2_ : F1_ n = some (.inr (12, [.null, .int 0, .int 0])) := by rw [← hF1_]; exact ev_up_s
  refine ev_dup (pc := 8) d_Sg_init_8 rfl ?_
  exact ev_init (pc := 9) (As := []) (st := [.ref n, .ref r0]) (Q2 := Q9) M_AL_init d_Sg_init_9 lc_Sg_9 rfl rfl wd_62 rfl rfl (Nat.le_of_ble_eq_true rfl) (Nat.le_of_ble_eq_true rfl) (Nat.le_of_ble_eq_true rfl) hb_rc9 hs_rs9 (by subst hF1_; exact c9_0) k12_1

set_option maxRecDepth 100000 in
set_option maxHeartbeats 4000000 in
theorem s_Sg_init_12 {l : Launch} {X : ev_X} {bc bs n : Nat} {F : ev_H} {Q : Option Value → Nat → ev_H → Prop} {r0 : Nat} {rs0 : Nat} {rs1 : Nat} {irs0_deletedIds : Int32} {ir0_deletedIds : Int32} (h_rs0 : F rs0 = some (.inr (9, [.ref (rs0 + 1), .int irs0_deletedIds]))) (h_r0 : F r0 = some (.inr (9, [.null, .int ir0_deletedIds]))) (ne_r0_rs0 : r0 ≠ rs0) (ne_rs0_r0 : rs0 ≠ r0)
    (q20_0 : Q none n (ev_up (ev_up F rs0 (.inr (9, [.ref rs1, .int irs0_deletedIds]))) r0 (.inr (9, [.null, .int 0])))) :
    Ev l X M_Sg_init bc bs 12 [(0, .ref r0)] [.ref rs1, .ref rs0] n F (ev_mq X Q) := by
  refine ev_putfield (pc := 12) 0 _ d_Sg_init_12 fl_Sg_10 h_rs0 (ev_pfn (r0 := rC9) (ty := (.object "java/util/ArrayList")) rfl (Or.inr ⟨rfl, rfl, rfl⟩) (by decide +kernel)) rfl rfl (Nat.le_of_ble_eq_true rfl) (fun F1_ hF1_ => ?_)
  have g2_ : F1_ rs0 = some (.inr (9, [.ref rs1, .int irs0_deletedIds])) := by rw [← hF1_]; exact ev_up_s
  refine ev_aload_n (pc := 15) d_Sg_init_15 rfl ?_
  refine ev_iconst (pc := 16) 0 d_Sg_init_16 (by decide) ?_
  have g3_ : F1_ r0 = some (.inr (9, [.null, .int ir0_deletedIds])) := by rw [← hF1_]; exact ev_up_k ne_r0_rs0 h_r0
  refine ev_putfield (pc := 17) 1 _ d_Sg_init_17 fl_Sg_16 g3_ pf_9_deletedIds rfl rfl (Nat.le_of_ble_eq_true rfl) (fun F4_ hF4_ => ?_)
  have g5_ : F4_ rs0 = some (.inr (9, [.ref rs1, .int irs0_deletedIds])) := by rw [← hF4_]; exact ev_up_k ne_rs0_r0 g2_
  have g6_ : F4_ r0 = some (.inr (9, [.null, .int 0])) := by rw [← hF4_]; exact ev_up_s
  exact ev_return (pc := 20) d_Sg_init_20 rfl (by subst hF1_ hF4_; exact q20_0)
set_option maxRecDepth 100000 in
set_option maxHeartbeats 4000000 in
theorem s_Sh_insertLive_0 {l : Launch} {X : ev_X} {bc bs n : Nat} {F : ev_H} {Q : Option Value → Nat → ev_H → Prop} {r0 : Nat} {r1 : Nat} 
    (k2_0 : Ev l X M_Sh_insertLive bc bs 2 [(0, .ref r0), (1, .ref r1), (2, .int 0)] [] n F (ev_mq X Q)) :
    Ev l X M_Sh_insertLive bc bs 0 [(0, .ref r0), (1, .ref r1)] [] n F (ev_mq X Q) := by
  refine ev_iconst (pc := 0) 0 d_Sh_insertLive_0 (by decide) ?_
  refine ev_istore_n (pc := 1) d_Sh_insertLive_1 (Nat.le_of_ble_eq_true rfl) [1, 2, 0] rfl ?_
  exact k2_0

set_option maxRecDepth 100000 in
set_option maxHeartbeats 4000000 in
theorem s_Sh_insertLive_2 {l : Launch} {X : ev_X} {bc bs n : Nat} {F : ev_H} {Q : Option Value → Nat → ev_H → Prop} {r0 : Nat} {r1 : Nat} {i2 : Int32} {r0p2_elementData : Nat} {ir0p2_size : Int32} {ir0p2_modCount : Int32} {v7 : Int32} {Q46 : Option Value → Nat → ev_H → Prop} {bc46 : Nat} {bs46 : Nat} {rc46 : Nat} {rs46 : Nat} {v18 : Nat} {iv18_id : Int32} {v18_terms : Nat} {ir1_id : Int32} {r1_terms : Nat} {Q46_2 : Option Value → Nat → ev_H → Prop} {bc46_2 : Nat} {bs46_2 : Nat} {rc46_2 : Nat} {rs46_2 : Nat} (h_r0 : F r0 = some (.inr (3, [.ref (r0 + 1), .ref (r0 + 2)]))) (h_r0p2 : F (r0 + 2) = some (.inr (12, [.ref r0p2_elementData, .int ir0p2_size, .int ir0p2_modCount]))) (hb_rc46 : rc46 + bc46 ≤ bc) (hs_rs46 : rs46 + bs46 ≤ bs) (h_r1 : F r1 = some (.inr (8, [.int ir1_id, .ref r1_terms]))) (hb_rc46_2 : rc46_2 + bc46_2 ≤ bc) (hs_rs46_2 : rs46_2 + bs46_2 ≤ bs)
    (c7_0 : Cal l X M_AL_size 0 0 [.ref (r0 + 2)] n F (ev_pure (.int v7) n F))
    (c46_1 : (v7 ≤ i2) → Cal l X M_AL_add3 bc46 bs46 [.ref (r0 + 2), .int i2, .ref r1] n F Q46)
    (k49_2 : (v7 ≤ i2) → ∀ v2 n2 F2, Q46 v2 n2 F2 → Ev l X M_Sh_insertLive rc46 rs46 49 [(0, .ref r0), (1, .ref r1), (2, .int i2)] (v2.toList ++ []) n2 F2 (ev_mq X Q))
    (c18_3 : (¬ v7 ≤ i2) → Cal l X M_AL_get 0 0 [.ref (r0 + 2), .int i2] n F (ev_pure (.ref v18) n F))
    (hv18_4 : (¬ v7 ≤ i2) → F v18 = some (.inr (8, [.int iv18_id, .ref v18_terms])))
    (c46_5 : (¬ v7 ≤ i2) → (ir1_id ≤ iv18_id) → Cal l X M_AL_add3 bc46_2 bs46_2 [.ref (r0 + 2), .int i2, .ref r1] n F Q46_2)
    (k49_6 : (¬ v7 ≤ i2) → (ir1_id ≤ iv18_id) → ∀ v2 n2 F2, Q46_2 v2 n2 F2 → Ev l X M_Sh_insertLive rc46_2 rs46_2 49 [(0, .ref r0), (1, .ref r1), (2, .int i2)] (v2.toList ++ []) n2 F2 (ev_mq X Q))
    (k2_7 : (¬ v7 ≤ i2) → (¬ ir1_id ≤ iv18_id) → Ev l X M_Sh_insertLive bc bs 2 [(0, .ref r0), (1, .ref r1), (2, .int (i2 + 1))] [] n F (ev_mq X Q)) :
    Ev l X M_Sh_insertLive bc bs 2 [(0, .ref r0), (1, .ref r1), (2, .int i2)] [] n F (ev_mq X Q) := by
  refine ev_iload_n (pc := 2) d_Sh_insertLive_2 rfl ?_
  refine ev_aload_n (pc := 3) d_Sh_insertLive_3 rfl ?_
  refine ev_getfield (pc := 4) 1 d_Sh_insertLive_4 fl_Sh_16 h_r0 rfl ?_
  refine ev_invokevirtual (pc := 7) (As := []) (st := [.int i2]) (Q2 := ev_pure (.int v7) n F) (bc1 := 0) (bs1 := 0) M_AL_size rC12 d_Sh_insertLive_7 lc_Sh_19 wd_469 wd_470 rfl h_r0p2 rfl rfl (Nat.le_of_ble_eq_true rfl) (Nat.le_of_ble_eq_true rfl) (Nat.le_of_ble_eq_true rfl) (Nat.le_refl _) (Nat.le_refl _) c7_0 ?_
  refine ev_purek ?_
  refine ev_icmp_ge (pc := 10) 40 d_Sh_insertLive_10 (by decide) (fun c10 => ?_) (fun c10 => ?_)
  · refine ev_aload_n (pc := 40) d_Sh_insertLive_40 rfl ?_
    refine ev_getfield (pc := 41) 1 d_Sh_insertLive_41 fl_Sh_16 h_r0 rfl ?_
    refine ev_iload_n (pc := 44) d_Sh_insertLive_44 rfl ?_
    refine ev_aload_n (pc := 45) d_Sh_insertLive_45 rfl ?_
    exact ev_invokevirtual (pc := 46) (As := [.int i2, .ref r1]) (st := []) (Q2 := Q46) M_AL_add3 rC12 d_Sh_insertLive_46 lc_Sh_77 wd_629 wd_630 rfl h_r0p2 rfl rfl (Nat.le_of_ble_eq_true rfl) (Nat.le_of_ble_eq_true rfl) (Nat.le_of_ble_eq_true rfl) hb_rc46 hs_rs46 (c46_1 c10) (k49_2 c10)
  · refine ev_aload_n (pc := 13) d_Sh_insertLive_13 rfl ?_
    refine ev_getfield (pc := 14) 1 d_Sh_insertLive_14 fl_Sh_16 h_r0 rfl ?_
    refine ev_iload_n (pc := 17) d_Sh_insertLive_17 rfl ?_
    refine ev_invokevirtual (pc := 18) (As := [.int i2]) (st := []) (Q2 := ev_pure (.ref v18) n F) (bc1 := 0) (bs1 := 0) M_AL_get rC12 d_Sh_insertLive_18 lc_Sh_23 wd_473 wd_474 rfl h_r0p2 rfl rfl (Nat.le_of_ble_eq_true rfl) (Nat.le_of_ble_eq_true rfl) (Nat.le_of_ble_eq_true rfl) (Nat.le_refl _) (Nat.le_refl _) (c18_3 c10) ?_
    refine ev_purek ?_
    refine ev_checkcast (pc := 21) rC8 d_Sh_insertLive_21 wd_579 wd_1203 rfl (hv18_4 c10) ?_
    refine ev_getfield (pc := 24) 0 d_Sh_insertLive_24 fl_Sh_29 (hv18_4 c10) rfl ?_
    refine ev_aload_n (pc := 27) d_Sh_insertLive_27 rfl ?_
    refine ev_getfield (pc := 28) 0 d_Sh_insertLive_28 fl_Sh_29 h_r1 rfl ?_
    refine ev_icmp_ge (pc := 31) 40 d_Sh_insertLive_31 (by decide) (fun c31 => ?_) (fun c31 => ?_)
    · refine ev_aload_n (pc := 40) d_Sh_insertLive_40 rfl ?_
      refine ev_getfield (pc := 41) 1 d_Sh_insertLive_41 fl_Sh_16 h_r0 rfl ?_
      refine ev_iload_n (pc := 44) d_Sh_insertLive_44 rfl ?_
      refine ev_aload_n (pc := 45) d_Sh_insertLive_45 rfl ?_
      exact ev_invokevirtual (pc := 46) (As := [.int i2, .ref r1]) (st := []) (Q2 := Q46_2) M_AL_add3 rC12 d_Sh_insertLive_46 lc_Sh_77 wd_629 wd_630 rfl h_r0p2 rfl rfl (Nat.le_of_ble_eq_true rfl) (Nat.le_of_ble_eq_true rfl) (Nat.le_of_ble_eq_true rfl) hb_rc46_2 hs_rs46_2 (c46_5 c10 c31) (k49_6 c10 c31)
    · refine ev_iinc (pc := 34) 2 1 d_Sh_insertLive_34 rfl (by decide) (Nat.le_of_ble_eq_true rfl) [1, 2, 0] rfl ?_
      refine ev_goto (pc := 37) 2 d_Sh_insertLive_37 (by decide) ?_
      exact (k2_7 c10 c31)

set_option maxRecDepth 100000 in
set_option maxHeartbeats 4000000 in
theorem s_Sh_insertLive_49 {l : Launch} {X : ev_X} {bc bs n : Nat} {F : ev_H} {Q : Option Value → Nat → ev_H → Prop} {r0 : Nat} {r1 : Nat} {i2 : Int32} 
    (q49_0 : Q none n F) :
    Ev l X M_Sh_insertLive bc bs 49 [(0, .ref r0), (1, .ref r1), (2, .int i2)] [] n F (ev_mq X Q) := by
  exact ev_return (pc := 49) d_Sh_insertLive_49 rfl q49_0
set_option maxRecDepth 100000 in
set_option maxHeartbeats 4000000 in
theorem s_Pe_clear_0 {l : Launch} {X : ev_X} {bc bs n : Nat} {F : ev_H} {Q : Option Value → Nat → ev_H → Prop} {r0 : Nat} {ir0_ids : Int32} {r0p1_elementData : Nat} {ir0p1_size : Int32} {ir0p1_modCount : Int32} {Q4 : Option Value → Nat → ev_H → Prop} {bc4 : Nat} {bs4 : Nat} {rc4 : Nat} {rs4 : Nat} (h_r0 : F r0 = some (.inr (2, [.ref (r0 + 1), .int ir0_ids]))) (h_r0p1 : F (r0 + 1) = some (.inr (12, [.ref r0p1_elementData, .int ir0p1_size, .int ir0p1_modCount]))) (hb_rc4 : rc4 + bc4 ≤ bc) (hs_rs4 : rs4 + bs4 ≤ bs)
    (c4_0 : Cal l X M_AL_clear bc4 bs4 [.ref (r0 + 1)] n F Q4)
    (k7_1 : ∀ v2 n2 F2, Q4 v2 n2 F2 → Ev l X M_Pe_clear rc4 rs4 7 [(0, .ref r0)] (v2.toList ++ []) n2 F2 (ev_mq X Q)) :
    Ev l X M_Pe_clear bc bs 0 [(0, .ref r0)] [] n F (ev_mq X Q) := by
  refine ev_aload_n (pc := 0) d_Pe_clear_0 rfl ?_
  refine ev_getfield (pc := 1) 0 d_Pe_clear_1 fl_Pe_10 h_r0 rfl ?_
  exact ev_invokevirtual (pc := 4) (As := []) (st := []) (Q2 := Q4) M_AL_clear rC12 d_Pe_clear_4 lc_Pe_50 wd_641 wd_642 rfl h_r0p1 rfl rfl (Nat.le_of_ble_eq_true rfl) (Nat.le_of_ble_eq_true rfl) (Nat.le_of_ble_eq_true rfl) hb_rc4 hs_rs4 c4_0 k7_1

set_option maxRecDepth 100000 in
set_option maxHeartbeats 4000000 in
theorem s_Pe_clear_7 {l : Launch} {X : ev_X} {bc bs n : Nat} {F : ev_H} {Q : Option Value → Nat → ev_H → Prop} {r0 : Nat} {ir0_ids : Int32} (h_r0 : F r0 = some (.inr (2, [.ref (r0 + 1), .int ir0_ids])))
    (q12_0 : Q none n (ev_up F r0 (.inr (2, [.ref (r0 + 1), .int 0])))) :
    Ev l X M_Pe_clear bc bs 7 [(0, .ref r0)] [] n F (ev_mq X Q) := by
  refine ev_aload_n (pc := 7) d_Pe_clear_7 rfl ?_
  refine ev_iconst (pc := 8) 0 d_Pe_clear_8 (by decide) ?_
  refine ev_putfield (pc := 9) 1 _ d_Pe_clear_9 fl_Pe_16 h_r0 pf_2_ids rfl rfl (Nat.le_of_ble_eq_true rfl) (fun F1_ hF1_ => ?_)
  have g2_ : F1_ r0 = some (.inr (2, [.ref (r0 + 1), .int 0])) := by rw [← hF1_]; exact ev_up_s
  exact ev_return (pc := 12) d_Pe_clear_12 rfl (by subst hF1_; exact q12_0)
set_option maxRecDepth 100000 in
set_option maxHeartbeats 4000000 in
theorem s_Sh_joinedFrom_0 {l : Launch} {X : ev_X} {bc bs n : Nat} {F : ev_H} {Q : Option Value → Nat → ev_H → Prop} {r0 : Nat} {i1 : Int32} {rc0 : Nat} {rs0 : Nat} {Q4 : Option Value → Nat → ev_H → Prop} {bc4 : Nat} {bs4 : Nat} {rc4 : Nat} {rs4 : Nat} (hb_rc0 : rc0 + 1 ≤ bc) (hs_rs0 : rs0 + 2 ≤ bs) (hb_rc4 : rc4 + bc4 ≤ rc0) (hs_rs4 : rs4 + bs4 ≤ rs0)
    (c4_0 : Cal l X M_Sg_init bc4 bs4 [.ref n] (n + 1) (ev_up F n (.inr (9, [.null, .int 0]))) Q4)
    (k7_1 : ∀ v2 n2 F2, Q4 v2 n2 F2 → Ev l X M_Sh_joinedFrom rc4 rs4 7 [(0, .ref r0), (1, .int i1)] (v2.toList ++ [.ref n]) n2 F2 (ev_mq X Q)) :
    Ev l X M_Sh_joinedFrom bc bs 0 [(0, .ref r0), (1, .int i1)] [] n F (ev_mq X Q) := by
  refine ev_fresh fun fr0 => ?_
  refine ev_new (pc := 0) 9 [.null, .int 0] d_Sh_joinedFrom_0 ck_9 wd_599 wd_606 wd_25 (by decide +kernel) (bc2 := rc0) (bs2 := rs0) hb_rc0 hs_rs0 (fun F1_ hF1_ => ?_)
  have g2_ : F1_ n = some (.inr (9, [.null, .int 0])) := by rw [← hF1_]; exact ev_up_s
  refine ev_dup (pc := 3) d_Sh_joinedFrom_3 rfl ?_
  exact ev_init (pc := 4) (As := []) (st := [.ref n]) (Q2 := Q4) M_Sg_init d_Sh_joinedFrom_4 lc_Sh_67 rfl rfl wd_608 rfl rfl (Nat.le_of_ble_eq_true rfl) (Nat.le_of_ble_eq_true rfl) (Nat.le_of_ble_eq_true rfl) hb_rc4 hs_rs4 (by subst hF1_; exact c4_0) k7_1

set_option maxRecDepth 100000 in
set_option maxHeartbeats 4000000 in
theorem s_Sh_joinedFrom_10 {l : Launch} {X : ev_X} {bc bs n : Nat} {F : ev_H} {Q : Option Value → Nat → ev_H → Prop} {r0 : Nat} {i1 : Int32} {r2 : Nat} {i3 : Int32} {r0p1_elementData : Nat} {ir0p1_size : Int32} {ir0p1_modCount : Int32} {v15 : Int32} {v33 : Nat} {iv33_deletedIds : Int32} {ir2_deletedIds : Int32} {Q43 : Option Value → Nat → ev_H → Prop} {bc43 : Nat} {bs43 : Nat} {rc43 : Nat} {rs43 : Nat} (h_r0 : F r0 = some (.inr (3, [.ref (r0 + 1), .ref (r0 + 2)]))) (h_r0p1 : F (r0 + 1) = some (.inr (12, [.ref r0p1_elementData, .int ir0p1_size, .int ir0p1_modCount]))) (h_r2 : F r2 = some (.inr (9, [.ref (r2 + 1), .int ir2_deletedIds]))) (hb_rc43 : rc43 + bc43 ≤ bc) (hs_rs43 : rs43 + bs43 ≤ bs)
    (c15_0 : Cal l X M_AL_size 0 0 [.ref (r0 + 1)] n F (ev_pure (.int v15) n F))
    (q53_1 : (v15 ≤ i3) → Q (some (.ref r2)) n F)
    (q53_2 : (¬ v15 ≤ i3) → ((i1 + 1) < i3) → Q (some (.ref r2)) n F)
    (c33_3 : (¬ v15 ≤ i3) → (¬ (i1 + 1) < i3) → Cal l X M_AL_get 0 0 [.ref (r0 + 1), .int i3] n F (ev_pure (.ref v33) n F))
    (hv33_4 : (¬ v15 ≤ i3) → (¬ (i1 + 1) < i3) → F v33 = some (.inr (9, [.ref (v33 + 1), .int iv33_deletedIds])))
    (c43_5 : (¬ v15 ≤ i3) → (¬ (i1 + 1) < i3) → Cal l X M_Sg_copyLive bc43 bs43 [.ref v33, .ref (r2 + 1)] n F Q43)
    (k46_6 : (¬ v15 ≤ i3) → (¬ (i1 + 1) < i3) → ∀ v2 n2 F2, Q43 v2 n2 F2 → Ev l X M_Sh_joinedFrom rc43 rs43 46 [(0, .ref r0), (1, .int i1), (2, .ref r2), (3, .int i3)] (v2.toList ++ []) n2 F2 (ev_mq X Q)) :
    Ev l X M_Sh_joinedFrom bc bs 10 [(0, .ref r0), (1, .int i1), (2, .ref r2), (3, .int i3)] [] n F (ev_mq X Q) := by
  refine ev_iload_n (pc := 10) d_Sh_joinedFrom_10 rfl ?_
  refine ev_aload_n (pc := 11) d_Sh_joinedFrom_11 rfl ?_
  refine ev_getfield (pc := 12) 0 d_Sh_joinedFrom_12 fl_Sh_10 h_r0 rfl ?_
  refine ev_invokevirtual (pc := 15) (As := []) (st := [.int i3]) (Q2 := ev_pure (.int v15) n F) (bc1 := 0) (bs1 := 0) M_AL_size rC12 d_Sh_joinedFrom_15 lc_Sh_19 wd_469 wd_470 rfl h_r0p1 rfl rfl (Nat.le_of_ble_eq_true rfl) (Nat.le_of_ble_eq_true rfl) (Nat.le_of_ble_eq_true rfl) (Nat.le_refl _) (Nat.le_refl _) c15_0 ?_
  refine ev_purek ?_
  refine ev_icmp_ge (pc := 18) 52 d_Sh_joinedFrom_18 (by decide) (fun c18 => ?_) (fun c18 => ?_)
  · refine ev_aload_n (pc := 52) d_Sh_joinedFrom_52 rfl ?_
    exact ev_areturn (pc := 53) d_Sh_joinedFrom_53 rfl (Or.inl ⟨_, rfl⟩) (Or.inr ⟨_, rfl⟩) (q53_1 c18)
  · refine ev_iload_n (pc := 21) d_Sh_joinedFrom_21 rfl ?_
    refine ev_iload_n (pc := 22) d_Sh_joinedFrom_22 rfl ?_
    refine ev_iconst (pc := 23) 1 d_Sh_joinedFrom_23 (by decide) ?_
    refine ev_iadd (pc := 24) d_Sh_joinedFrom_24 ?_
    refine ev_icmp_gt (pc := 25) 52 d_Sh_joinedFrom_25 (by decide) (fun c25 => ?_) (fun c25 => ?_)
    · refine ev_aload_n (pc := 52) d_Sh_joinedFrom_52 rfl ?_
      exact ev_areturn (pc := 53) d_Sh_joinedFrom_53 rfl (Or.inl ⟨_, rfl⟩) (Or.inr ⟨_, rfl⟩) (q53_2 c18 c25)
    · refine ev_aload_n (pc := 28) d_Sh_joinedFrom_28 rfl ?_
      refine ev_getfield (pc := 29) 0 d_Sh_joinedFrom_29 fl_Sh_10 h_r0 rfl ?_
      refine ev_iload_n (pc := 32) d_Sh_joinedFrom_32 rfl ?_
      refine ev_invokevirtual (pc := 33) (As := [.int i3]) (st := []) (Q2 := ev_pure (.ref v33) n F) (bc1 := 0) (bs1 := 0) M_AL_get rC12 d_Sh_joinedFrom_33 lc_Sh_23 wd_473 wd_474 rfl h_r0p1 rfl rfl (Nat.le_of_ble_eq_true rfl) (Nat.le_of_ble_eq_true rfl) (Nat.le_of_ble_eq_true rfl) (Nat.le_refl _) (Nat.le_refl _) (c33_3 c18 c25) ?_
      refine ev_purek ?_
      refine ev_checkcast (pc := 36) rC9 d_Sh_joinedFrom_36 wd_599 wd_1204 rfl (hv33_4 c18 c25) ?_
      refine ev_aload_n (pc := 39) d_Sh_joinedFrom_39 rfl ?_
      refine ev_getfield (pc := 40) 0 d_Sh_joinedFrom_40 fl_Sh_68 h_r2 rfl ?_
      exact ev_invokevirtual (pc := 43) (As := [.ref (r2 + 1)]) (st := []) (Q2 := Q43) M_Sg_copyLive rC9 d_Sh_joinedFrom_43 lc_Sh_80 wd_662 wd_663 rfl (hv33_4 c18 c25) rfl rfl (Nat.le_of_ble_eq_true rfl) (Nat.le_of_ble_eq_true rfl) (Nat.le_of_ble_eq_true rfl) hb_rc43 hs_rs43 (c43_5 c18 c25) (k46_6 c18 c25)

set_option maxRecDepth 100000 in
set_option maxHeartbeats 4000000 in
theorem s_Sh_joinedFrom_7 {l : Launch} {X : ev_X} {bc bs n : Nat} {F : ev_H} {Q : Option Value → Nat → ev_H → Prop} {r0 : Nat} {i1 : Int32} {rs0 : Nat} 
    (k10_0 : Ev l X M_Sh_joinedFrom bc bs 10 [(0, .ref r0), (1, .int i1), (2, .ref rs0), (3, .int i1)] [] n F (ev_mq X Q)) :
    Ev l X M_Sh_joinedFrom bc bs 7 [(0, .ref r0), (1, .int i1)] [.ref rs0] n F (ev_mq X Q) := by
  refine ev_astore_n (pc := 7) d_Sh_joinedFrom_7 (Nat.le_of_ble_eq_true rfl) [1, 2, 0] rfl ?_
  refine ev_iload_n (pc := 8) d_Sh_joinedFrom_8 rfl ?_
  refine ev_istore_n (pc := 9) d_Sh_joinedFrom_9 (Nat.le_of_ble_eq_true rfl) [1, 2, 3, 0] rfl ?_
  exact k10_0

set_option maxRecDepth 100000 in
set_option maxHeartbeats 4000000 in
theorem s_Sh_joinedFrom_46 {l : Launch} {X : ev_X} {bc bs n : Nat} {F : ev_H} {Q : Option Value → Nat → ev_H → Prop} {r0 : Nat} {i1 : Int32} {r2 : Nat} {i3 : Int32} 
    (k10_0 : Ev l X M_Sh_joinedFrom bc bs 10 [(0, .ref r0), (1, .int i1), (2, .ref r2), (3, .int (i3 + 1))] [] n F (ev_mq X Q)) :
    Ev l X M_Sh_joinedFrom bc bs 46 [(0, .ref r0), (1, .int i1), (2, .ref r2), (3, .int i3)] [] n F (ev_mq X Q) := by
  refine ev_iinc (pc := 46) 3 1 d_Sh_joinedFrom_46 rfl (by decide) (Nat.le_of_ble_eq_true rfl) [1, 2, 3, 0] rfl ?_
  refine ev_goto (pc := 49) 10 d_Sh_joinedFrom_49 (by decide) ?_
  exact k10_0
set_option maxRecDepth 100000 in
set_option maxHeartbeats 4000000 in
theorem s_Sg_copyLive_0 {l : Launch} {X : ev_X} {bc bs n : Nat} {F : ev_H} {Q : Option Value → Nat → ev_H → Prop} {r0 : Nat} {r1 : Nat} 
    (k2_0 : Ev l X M_Sg_copyLive bc bs 2 [(0, .ref r0), (1, .ref r1), (2, .int 0)] [] n F (ev_mq X Q)) :
    Ev l X M_Sg_copyLive bc bs 0 [(0, .ref r0), (1, .ref r1)] [] n F (ev_mq X Q) := by
  refine ev_iconst (pc := 0) 0 d_Sg_copyLive_0 (by decide) ?_
  refine ev_istore_n (pc := 1) d_Sg_copyLive_1 (Nat.le_of_ble_eq_true rfl) [1, 2, 0] rfl ?_
  exact k2_0

set_option maxRecDepth 100000 in
set_option maxHeartbeats 4000000 in
theorem s_Sg_copyLive_2 {l : Launch} {X : ev_X} {bc bs n : Nat} {F : ev_H} {Q : Option Value → Nat → ev_H → Prop} {r0 : Nat} {r1 : Nat} {i2 : Int32} {ir0_deletedIds : Int32} {r0p1_elementData : Nat} {ir0p1_size : Int32} {ir0p1_modCount : Int32} {v7 : Int32} {v15 : Int32} {v27 : Nat} {iv27_id : Int32} {v27_terms : Nat} {r1_elementData : Nat} {ir1_size : Int32} {ir1_modCount : Int32} {Q33 : Option Value → Nat → ev_H → Prop} {bc33 : Nat} {bs33 : Nat} {rc33 : Nat} {rs33 : Nat} (h_r0 : F r0 = some (.inr (9, [.ref (r0 + 1), .int ir0_deletedIds]))) (h_r0p1 : F (r0 + 1) = some (.inr (12, [.ref r0p1_elementData, .int ir0p1_size, .int ir0p1_modCount]))) (h_r1 : F r1 = some (.inr (12, [.ref r1_elementData, .int ir1_size, .int ir1_modCount]))) (hb_rc33 : rc33 + bc33 ≤ bc) (hs_rs33 : rs33 + bs33 ≤ bs)
    (c7_0 : Cal l X M_AL_size 0 0 [.ref (r0 + 1)] n F (ev_pure (.int v7) n F))
    (q43_1 : (v7 ≤ i2) → Q none n F)
    (c15_2 : (¬ v7 ≤ i2) → Cal l X M_Sg_isLive 0 0 [.ref r0, .int i2] n F (ev_pure (.int v15) n F))
    (k2_3 : (¬ v7 ≤ i2) → (v15 = 0) → Ev l X M_Sg_copyLive bc bs 2 [(0, .ref r0), (1, .ref r1), (2, .int (i2 + 1))] [] n F (ev_mq X Q))
    (c27_4 : (¬ v7 ≤ i2) → (¬ v15 = 0) → Cal l X M_AL_get 0 0 [.ref (r0 + 1), .int i2] n F (ev_pure (.ref v27) n F))
    (hv27_5 : (¬ v7 ≤ i2) → (¬ v15 = 0) → F v27 = some (.inr (8, [.int iv27_id, .ref v27_terms])))
    (c33_6 : (¬ v7 ≤ i2) → (¬ v15 = 0) → Cal l X M_AL_add bc33 bs33 [.ref r1, .ref v27] n F Q33)
    (k36_7 : (¬ v7 ≤ i2) → (¬ v15 = 0) → ∀ v2 n2 F2, Q33 v2 n2 F2 → Ev l X M_Sg_copyLive rc33 rs33 36 [(0, .ref r0), (1, .ref r1), (2, .int i2)] (v2.toList ++ []) n2 F2 (ev_mq X Q)) :
    Ev l X M_Sg_copyLive bc bs 2 [(0, .ref r0), (1, .ref r1), (2, .int i2)] [] n F (ev_mq X Q) := by
  refine ev_iload_n (pc := 2) d_Sg_copyLive_2 rfl ?_
  refine ev_aload_n (pc := 3) d_Sg_copyLive_3 rfl ?_
  refine ev_getfield (pc := 4) 0 d_Sg_copyLive_4 fl_Sg_10 h_r0 rfl ?_
  refine ev_invokevirtual (pc := 7) (As := []) (st := [.int i2]) (Q2 := ev_pure (.int v7) n F) (bc1 := 0) (bs1 := 0) M_AL_size rC12 d_Sg_copyLive_7 lc_Sg_35 wd_469 wd_470 rfl h_r0p1 rfl rfl (Nat.le_of_ble_eq_true rfl) (Nat.le_of_ble_eq_true rfl) (Nat.le_of_ble_eq_true rfl) (Nat.le_refl _) (Nat.le_refl _) c7_0 ?_
  refine ev_purek ?_
  refine ev_icmp_ge (pc := 10) 43 d_Sg_copyLive_10 (by decide) (fun c10 => ?_) (fun c10 => ?_)
  · exact ev_return (pc := 43) d_Sg_copyLive_43 rfl (q43_1 c10)
  · refine ev_aload_n (pc := 13) d_Sg_copyLive_13 rfl ?_
    refine ev_iload_n (pc := 14) d_Sg_copyLive_14 rfl ?_
    refine ev_invokevirtual (pc := 15) (As := [.int i2]) (st := []) (Q2 := ev_pure (.int v15) n F) (bc1 := 0) (bs1 := 0) M_Sg_isLive rC9 d_Sg_copyLive_15 lc_Sg_39 wd_667 wd_668 rfl h_r0 rfl rfl (Nat.le_of_ble_eq_true rfl) (Nat.le_of_ble_eq_true rfl) (Nat.le_of_ble_eq_true rfl) (Nat.le_refl _) (Nat.le_refl _) (c15_2 c10) ?_
    refine ev_purek ?_
    refine ev_if_eq (pc := 18) 37 d_Sg_copyLive_18 (by decide) (fun c18 => ?_) (fun c18 => ?_)
    · refine ev_iinc (pc := 37) 2 1 d_Sg_copyLive_37 rfl (by decide) (Nat.le_of_ble_eq_true rfl) [1, 2, 0] rfl ?_
      refine ev_goto (pc := 40) 2 d_Sg_copyLive_40 (by decide) ?_
      exact (k2_3 c10 c18)
    · refine ev_aload_n (pc := 21) d_Sg_copyLive_21 rfl ?_
      refine ev_aload_n (pc := 22) d_Sg_copyLive_22 rfl ?_
      refine ev_getfield (pc := 23) 0 d_Sg_copyLive_23 fl_Sg_10 h_r0 rfl ?_
      refine ev_iload_n (pc := 26) d_Sg_copyLive_26 rfl ?_
      refine ev_invokevirtual (pc := 27) (As := [.int i2]) (st := [.ref r1]) (Q2 := ev_pure (.ref v27) n F) (bc1 := 0) (bs1 := 0) M_AL_get rC12 d_Sg_copyLive_27 lc_Sg_20 wd_473 wd_474 rfl h_r0p1 rfl rfl (Nat.le_of_ble_eq_true rfl) (Nat.le_of_ble_eq_true rfl) (Nat.le_of_ble_eq_true rfl) (Nat.le_refl _) (Nat.le_refl _) (c27_4 c10 c18) ?_
      refine ev_purek ?_
      refine ev_checkcast (pc := 30) rC8 d_Sg_copyLive_30 wd_671 wd_1203 rfl (hv27_5 c10 c18) ?_
      exact ev_invokevirtual (pc := 33) (As := [.ref v27]) (st := []) (Q2 := Q33) M_AL_add rC12 d_Sg_copyLive_33 lc_Sg_43 wd_495 wd_496 rfl h_r1 rfl rfl (Nat.le_of_ble_eq_true rfl) (Nat.le_of_ble_eq_true rfl) (Nat.le_of_ble_eq_true rfl) hb_rc33 hs_rs33 (c33_6 c10 c18) (k36_7 c10 c18)

set_option maxRecDepth 100000 in
set_option maxHeartbeats 4000000 in
theorem s_Sg_copyLive_36 {l : Launch} {X : ev_X} {bc bs n : Nat} {F : ev_H} {Q : Option Value → Nat → ev_H → Prop} {r0 : Nat} {r1 : Nat} {i2 : Int32} {is0 : Int32} 
    (k2_0 : Ev l X M_Sg_copyLive bc bs 2 [(0, .ref r0), (1, .ref r1), (2, .int (i2 + 1))] [] n F (ev_mq X Q)) :
    Ev l X M_Sg_copyLive bc bs 36 [(0, .ref r0), (1, .ref r1), (2, .int i2)] [.int is0] n F (ev_mq X Q) := by
  refine ev_pop (pc := 36) d_Sg_copyLive_36 rfl ?_
  refine ev_iinc (pc := 37) 2 1 d_Sg_copyLive_37 rfl (by decide) (Nat.le_of_ble_eq_true rfl) [1, 2, 0] rfl ?_
  refine ev_goto (pc := 40) 2 d_Sg_copyLive_40 (by decide) ?_
  exact k2_0
set_option maxRecDepth 100000 in
set_option maxHeartbeats 4000000 in
theorem s_Sg_isLive_0 {l : Launch} {X : ev_X} {bc bs n : Nat} {F : ev_H} {Q : Option Value → Nat → ev_H → Prop} {r0 : Nat} {i1 : Int32} {ir0_deletedIds : Int32} {r0p1_elementData : Nat} {ir0p1_size : Int32} {ir0p1_modCount : Int32} {v5 : Nat} {iv5_id : Int32} {v5_terms : Nat} {v18 : Int32} (h_r0 : F r0 = some (.inr (9, [.ref (r0 + 1), .int ir0_deletedIds]))) (h_r0p1 : F (r0 + 1) = some (.inr (12, [.ref r0p1_elementData, .int ir0p1_size, .int ir0p1_modCount]))) (h_v5 : F v5 = some (.inr (8, [.int iv5_id, .ref v5_terms])))
    (c5_0 : Cal l X M_AL_get 0 0 [.ref (r0 + 1), .int i1] n F (ev_pure (.ref v5) n F))
    (c18_1 : Cal l X M_P_isAmong 0 0 [.int iv5_id, .int ir0_deletedIds] n F (ev_pure (.int v18) n F))
    (q29_2 : (¬ v18 = 0) → Q (some (.int 0)) n F)
    (q29_3 : (v18 = 0) → Q (some (.int 1)) n F) :
    Ev l X M_Sg_isLive bc bs 0 [(0, .ref r0), (1, .int i1)] [] n F (ev_mq X Q) := by
  refine ev_aload_n (pc := 0) d_Sg_isLive_0 rfl ?_
  refine ev_getfield (pc := 1) 0 d_Sg_isLive_1 fl_Sg_10 h_r0 rfl ?_
  refine ev_iload_n (pc := 4) d_Sg_isLive_4 rfl ?_
  refine ev_invokevirtual (pc := 5) (As := [.int i1]) (st := []) (Q2 := ev_pure (.ref v5) n F) (bc1 := 0) (bs1 := 0) M_AL_get rC12 d_Sg_isLive_5 lc_Sg_20 wd_473 wd_474 rfl h_r0p1 rfl rfl (Nat.le_of_ble_eq_true rfl) (Nat.le_of_ble_eq_true rfl) (Nat.le_of_ble_eq_true rfl) (Nat.le_refl _) (Nat.le_refl _) c5_0 ?_
  refine ev_purek ?_
  refine ev_checkcast (pc := 8) rC8 d_Sg_isLive_8 wd_671 wd_1203 rfl h_v5 ?_
  refine ev_getfield (pc := 11) 0 d_Sg_isLive_11 fl_Sg_26 h_v5 rfl ?_
  refine ev_aload_n (pc := 14) d_Sg_isLive_14 rfl ?_
  refine ev_getfield (pc := 15) 1 d_Sg_isLive_15 fl_Sg_16 h_r0 rfl ?_
  refine ev_invokestatic (pc := 18) (As := [.int iv5_id, .int ir0_deletedIds]) (st := []) (Q2 := ev_pure (.int v18) n F) (bc1 := 0) (bs1 := 0) M_P_isAmong d_Sg_isLive_18 lc_Sg_29 wd_581 rfl rfl (Nat.le_of_ble_eq_true rfl) (Nat.le_of_ble_eq_true rfl) (Nat.le_of_ble_eq_true rfl) (Nat.le_refl _) (Nat.le_refl _) c18_1 ?_
  refine ev_purek ?_
  refine ev_if_ne (pc := 21) 28 d_Sg_isLive_21 (by decide) (fun c21 => ?_) (fun c21 => ?_)
  · refine ev_iconst (pc := 28) 0 d_Sg_isLive_28 (by decide) ?_
    exact ev_ireturn (pc := 29) d_Sg_isLive_29 rfl rfl (q29_2 c21)
  · refine ev_iconst (pc := 24) 1 d_Sg_isLive_24 (by decide) ?_
    refine ev_goto (pc := 25) 29 d_Sg_isLive_25 (by decide) ?_
    exact ev_ireturn (pc := 29) d_Sg_isLive_29 rfl rfl (q29_3 c21)
set_option maxRecDepth 100000 in
set_option maxHeartbeats 4000000 in
theorem s_Sh_replaceTwo_0 {l : Launch} {X : ev_X} {bc bs n : Nat} {F : ev_H} {Q : Option Value → Nat → ev_H → Prop} {r0 : Nat} {i1 : Int32} {r2 : Nat} {r0p1_elementData : Nat} {ir0p1_size : Int32} {ir0p1_modCount : Int32} {Q7 : Option Value → Nat → ev_H → Prop} {bc7 : Nat} {bs7 : Nat} {rc7 : Nat} {rs7 : Nat} (h_r0 : F r0 = some (.inr (3, [.ref (r0 + 1), .ref (r0 + 2)]))) (h_r0p1 : F (r0 + 1) = some (.inr (12, [.ref r0p1_elementData, .int ir0p1_size, .int ir0p1_modCount]))) (hb_rc7 : rc7 + bc7 ≤ bc) (hs_rs7 : rs7 + bs7 ≤ bs)
    (c7_0 : Cal l X M_AL_remove bc7 bs7 [.ref (r0 + 1), .int (i1 + 1)] n F Q7)
    (k10_1 : ∀ v2 n2 F2, Q7 v2 n2 F2 → Ev l X M_Sh_replaceTwo rc7 rs7 10 [(0, .ref r0), (1, .int i1), (2, .ref r2)] (v2.toList ++ []) n2 F2 (ev_mq X Q)) :
    Ev l X M_Sh_replaceTwo bc bs 0 [(0, .ref r0), (1, .int i1), (2, .ref r2)] [] n F (ev_mq X Q) := by
  refine ev_aload_n (pc := 0) d_Sh_replaceTwo_0 rfl ?_
  refine ev_getfield (pc := 1) 0 d_Sh_replaceTwo_1 fl_Sh_10 h_r0 rfl ?_
  refine ev_iload_n (pc := 4) d_Sh_replaceTwo_4 rfl ?_
  refine ev_iconst (pc := 5) 1 d_Sh_replaceTwo_5 (by decide) ?_
  refine ev_iadd (pc := 6) d_Sh_replaceTwo_6 ?_
  exact ev_invokevirtual (pc := 7) (As := [.int (i1 + 1)]) (st := []) (Q2 := Q7) M_AL_remove rC12 d_Sh_replaceTwo_7 lc_Sh_64 wd_486 wd_487 rfl h_r0p1 rfl rfl (Nat.le_of_ble_eq_true rfl) (Nat.le_of_ble_eq_true rfl) (Nat.le_of_ble_eq_true rfl) hb_rc7 hs_rs7 c7_0 k10_1

set_option maxRecDepth 100000 in
set_option maxHeartbeats 4000000 in
theorem s_Sh_replaceTwo_10 {l : Launch} {X : ev_X} {bc bs n : Nat} {F : ev_H} {Q : Option Value → Nat → ev_H → Prop} {r0 : Nat} {i1 : Int32} {r2 : Nat} {rs0 : Nat} {ir2_deletedIds : Int32} {r2p1_elementData : Nat} {ir2p1_size : Int32} {ir2p1_modCount : Int32} {v15 : Int32} {r0p1_elementData : Nat} {ir0p1_size : Int32} {ir0p1_modCount : Int32} {Q39 : Option Value → Nat → ev_H → Prop} {bc39 : Nat} {bs39 : Nat} {rc39 : Nat} {rs39 : Nat} {Q26 : Option Value → Nat → ev_H → Prop} {bc26 : Nat} {bs26 : Nat} {rc26 : Nat} {rs26 : Nat} (h_r2 : F r2 = some (.inr (9, [.ref (r2 + 1), .int ir2_deletedIds]))) (h_r2p1 : F (r2 + 1) = some (.inr (12, [.ref r2p1_elementData, .int ir2p1_size, .int ir2p1_modCount]))) (h_r0 : F r0 = some (.inr (3, [.ref (r0 + 1), .ref (r0 + 2)]))) (h_r0p1 : F (r0 + 1) = some (.inr (12, [.ref r0p1_elementData, .int ir0p1_size, .int ir0p1_modCount]))) (hb_rc39 : rc39 + bc39 ≤ bc) (hs_rs39 : rs39 + bs39 ≤ bs) (hb_rc26 : rc26 + bc26 ≤ bc) (hs_rs26 : rs26 + bs26 ≤ bs)
    (c15_0 : Cal l X M_AL_isEmpty 0 0 [.ref (r2 + 1)] n F (ev_pure (.int v15) n F))
    (c39_1 : (v15 = 0) → Cal l X M_AL_set bc39 bs39 [.ref (r0 + 1), .int i1, .ref r2] n F Q39)
    (k42_2 : (v15 = 0) → ∀ v2 n2 F2, Q39 v2 n2 F2 → Ev l X M_Sh_replaceTwo rc39 rs39 42 [(0, .ref r0), (1, .int i1), (2, .ref r2)] (v2.toList ++ []) n2 F2 (ev_mq X Q))
    (c26_3 : (¬ v15 = 0) → Cal l X M_AL_remove bc26 bs26 [.ref (r0 + 1), .int i1] n F Q26)
    (k29_4 : (¬ v15 = 0) → ∀ v2 n2 F2, Q26 v2 n2 F2 → Ev l X M_Sh_replaceTwo rc26 rs26 29 [(0, .ref r0), (1, .int i1), (2, .ref r2)] (v2.toList ++ []) n2 F2 (ev_mq X Q)) :
    Ev l X M_Sh_replaceTwo bc bs 10 [(0, .ref r0), (1, .int i1), (2, .ref r2)] [.ref rs0] n F (ev_mq X Q) := by
  refine ev_pop (pc := 10) d_Sh_replaceTwo_10 rfl ?_
  refine ev_aload_n (pc := 11) d_Sh_replaceTwo_11 rfl ?_
  refine ev_getfield (pc := 12) 0 d_Sh_replaceTwo_12 fl_Sh_68 h_r2 rfl ?_
  refine ev_invokevirtual (pc := 15) (As := []) (st := []) (Q2 := ev_pure (.int v15) n F) (bc1 := 0) (bs1 := 0) M_AL_isEmpty rC12 d_Sh_replaceTwo_15 lc_Sh_51 wd_569 wd_570 rfl h_r2p1 rfl rfl (Nat.le_of_ble_eq_true rfl) (Nat.le_of_ble_eq_true rfl) (Nat.le_of_ble_eq_true rfl) (Nat.le_refl _) (Nat.le_refl _) c15_0 ?_
  refine ev_purek ?_
  refine ev_if_eq (pc := 18) 33 d_Sh_replaceTwo_18 (by decide) (fun c18 => ?_) (fun c18 => ?_)
  · refine ev_aload_n (pc := 33) d_Sh_replaceTwo_33 rfl ?_
    refine ev_getfield (pc := 34) 0 d_Sh_replaceTwo_34 fl_Sh_10 h_r0 rfl ?_
    refine ev_iload_n (pc := 37) d_Sh_replaceTwo_37 rfl ?_
    refine ev_aload_n (pc := 38) d_Sh_replaceTwo_38 rfl ?_
    exact ev_invokevirtual (pc := 39) (As := [.int i1, .ref r2]) (st := []) (Q2 := Q39) M_AL_set rC12 d_Sh_replaceTwo_39 lc_Sh_83 wd_679 wd_680 rfl h_r0p1 rfl rfl (Nat.le_of_ble_eq_true rfl) (Nat.le_of_ble_eq_true rfl) (Nat.le_of_ble_eq_true rfl) hb_rc39 hs_rs39 (c39_1 c18) (k42_2 c18)
  · refine ev_aload_n (pc := 21) d_Sh_replaceTwo_21 rfl ?_
    refine ev_getfield (pc := 22) 0 d_Sh_replaceTwo_22 fl_Sh_10 h_r0 rfl ?_
    refine ev_iload_n (pc := 25) d_Sh_replaceTwo_25 rfl ?_
    exact ev_invokevirtual (pc := 26) (As := [.int i1]) (st := []) (Q2 := Q26) M_AL_remove rC12 d_Sh_replaceTwo_26 lc_Sh_64 wd_486 wd_487 rfl h_r0p1 rfl rfl (Nat.le_of_ble_eq_true rfl) (Nat.le_of_ble_eq_true rfl) (Nat.le_of_ble_eq_true rfl) hb_rc26 hs_rs26 (c26_3 c18) (k29_4 c18)

set_option maxRecDepth 100000 in
set_option maxHeartbeats 4000000 in
theorem s_Sh_replaceTwo_29 {l : Launch} {X : ev_X} {bc bs n : Nat} {F : ev_H} {Q : Option Value → Nat → ev_H → Prop} {r0 : Nat} {i1 : Int32} {r2 : Nat} {rs0 : Nat} 
    (q43_0 : Q none n F) :
    Ev l X M_Sh_replaceTwo bc bs 29 [(0, .ref r0), (1, .int i1), (2, .ref r2)] [.ref rs0] n F (ev_mq X Q) := by
  refine ev_pop (pc := 29) d_Sh_replaceTwo_29 rfl ?_
  refine ev_goto (pc := 30) 43 d_Sh_replaceTwo_30 (by decide) ?_
  exact ev_return (pc := 43) d_Sh_replaceTwo_43 rfl q43_0

set_option maxRecDepth 100000 in
set_option maxHeartbeats 4000000 in
theorem s_Sh_replaceTwo_42 {l : Launch} {X : ev_X} {bc bs n : Nat} {F : ev_H} {Q : Option Value → Nat → ev_H → Prop} {r0 : Nat} {i1 : Int32} {r2 : Nat} {rs0 : Nat} 
    (q43_0 : Q none n F) :
    Ev l X M_Sh_replaceTwo bc bs 42 [(0, .ref r0), (1, .int i1), (2, .ref r2)] [.ref rs0] n F (ev_mq X Q) := by
  refine ev_pop (pc := 42) d_Sh_replaceTwo_42 rfl ?_
  exact ev_return (pc := 43) d_Sh_replaceTwo_43 rfl q43_0
set_option maxRecDepth 100000 in
set_option maxHeartbeats 4000000 in
theorem s_Sh_documentCount_0 {l : Launch} {X : ev_X} {bc bs n : Nat} {F : ev_H} {Q : Option Value → Nat → ev_H → Prop} {r0 : Nat} 
    (k4_0 : Ev l X M_Sh_documentCount bc bs 4 [(0, .ref r0), (1, .int 0), (2, .int 0)] [] n F (ev_mq X Q)) :
    Ev l X M_Sh_documentCount bc bs 0 [(0, .ref r0)] [] n F (ev_mq X Q) := by
  refine ev_iconst (pc := 0) 0 d_Sh_documentCount_0 (by decide) ?_
  refine ev_istore_n (pc := 1) d_Sh_documentCount_1 (Nat.le_of_ble_eq_true rfl) [1, 0] rfl ?_
  refine ev_iconst (pc := 2) 0 d_Sh_documentCount_2 (by decide) ?_
  refine ev_istore_n (pc := 3) d_Sh_documentCount_3 (Nat.le_of_ble_eq_true rfl) [1, 2, 0] rfl ?_
  exact k4_0

set_option maxRecDepth 100000 in
set_option maxHeartbeats 4000000 in
theorem s_Sh_documentCount_4 {l : Launch} {X : ev_X} {bc bs n : Nat} {F : ev_H} {Q : Option Value → Nat → ev_H → Prop} {r0 : Nat} {i1 : Int32} {i2 : Int32} {r0p1_elementData : Nat} {ir0p1_size : Int32} {ir0p1_modCount : Int32} {v9 : Int32} {v21 : Nat} {iv21_deletedIds : Int32} {v21p1_elementData : Nat} {iv21p1_size : Int32} {iv21p1_modCount : Int32} {v30 : Int32} (h_r0 : F r0 = some (.inr (3, [.ref (r0 + 1), .ref (r0 + 2)]))) (h_r0p1 : F (r0 + 1) = some (.inr (12, [.ref r0p1_elementData, .int ir0p1_size, .int ir0p1_modCount])))
    (c9_0 : Cal l X M_AL_size 0 0 [.ref (r0 + 1)] n F (ev_pure (.int v9) n F))
    (q42_1 : (v9 ≤ i2) → Q (some (.int i1)) n F)
    (c21_2 : (¬ v9 ≤ i2) → Cal l X M_AL_get 0 0 [.ref (r0 + 1), .int i2] n F (ev_pure (.ref v21) n F))
    (hv21_3 : (¬ v9 ≤ i2) → F v21 = some (.inr (9, [.ref (v21 + 1), .int iv21_deletedIds])))
    (hv21p1_4 : (¬ v9 ≤ i2) → F (v21 + 1) = some (.inr (12, [.ref v21p1_elementData, .int iv21p1_size, .int iv21p1_modCount])))
    (c30_5 : (¬ v9 ≤ i2) → Cal l X M_AL_size 0 0 [.ref (v21 + 1)] n F (ev_pure (.int v30) n F))
    (k4_6 : (¬ v9 ≤ i2) → Ev l X M_Sh_documentCount bc bs 4 [(0, .ref r0), (1, .int (i1 + v30)), (2, .int (i2 + 1))] [] n F (ev_mq X Q)) :
    Ev l X M_Sh_documentCount bc bs 4 [(0, .ref r0), (1, .int i1), (2, .int i2)] [] n F (ev_mq X Q) := by
  refine ev_iload_n (pc := 4) d_Sh_documentCount_4 rfl ?_
  refine ev_aload_n (pc := 5) d_Sh_documentCount_5 rfl ?_
  refine ev_getfield (pc := 6) 0 d_Sh_documentCount_6 fl_Sh_10 h_r0 rfl ?_
  refine ev_invokevirtual (pc := 9) (As := []) (st := [.int i2]) (Q2 := ev_pure (.int v9) n F) (bc1 := 0) (bs1 := 0) M_AL_size rC12 d_Sh_documentCount_9 lc_Sh_19 wd_469 wd_470 rfl h_r0p1 rfl rfl (Nat.le_of_ble_eq_true rfl) (Nat.le_of_ble_eq_true rfl) (Nat.le_of_ble_eq_true rfl) (Nat.le_refl _) (Nat.le_refl _) c9_0 ?_
  refine ev_purek ?_
  refine ev_icmp_ge (pc := 12) 41 d_Sh_documentCount_12 (by decide) (fun c12 => ?_) (fun c12 => ?_)
  · refine ev_iload_n (pc := 41) d_Sh_documentCount_41 rfl ?_
    exact ev_ireturn (pc := 42) d_Sh_documentCount_42 rfl rfl (q42_1 c12)
  · refine ev_iload_n (pc := 15) d_Sh_documentCount_15 rfl ?_
    refine ev_aload_n (pc := 16) d_Sh_documentCount_16 rfl ?_
    refine ev_getfield (pc := 17) 0 d_Sh_documentCount_17 fl_Sh_10 h_r0 rfl ?_
    refine ev_iload_n (pc := 20) d_Sh_documentCount_20 rfl ?_
    refine ev_invokevirtual (pc := 21) (As := [.int i2]) (st := [.int i1]) (Q2 := ev_pure (.ref v21) n F) (bc1 := 0) (bs1 := 0) M_AL_get rC12 d_Sh_documentCount_21 lc_Sh_23 wd_473 wd_474 rfl h_r0p1 rfl rfl (Nat.le_of_ble_eq_true rfl) (Nat.le_of_ble_eq_true rfl) (Nat.le_of_ble_eq_true rfl) (Nat.le_refl _) (Nat.le_refl _) (c21_2 c12) ?_
    refine ev_purek ?_
    refine ev_checkcast (pc := 24) rC9 d_Sh_documentCount_24 wd_599 wd_1204 rfl (hv21_3 c12) ?_
    refine ev_getfield (pc := 27) 0 d_Sh_documentCount_27 fl_Sh_68 (hv21_3 c12) rfl ?_
    refine ev_invokevirtual (pc := 30) (As := []) (st := [.int i1]) (Q2 := ev_pure (.int v30) n F) (bc1 := 0) (bs1 := 0) M_AL_size rC12 d_Sh_documentCount_30 lc_Sh_19 wd_469 wd_470 rfl (hv21p1_4 c12) rfl rfl (Nat.le_of_ble_eq_true rfl) (Nat.le_of_ble_eq_true rfl) (Nat.le_of_ble_eq_true rfl) (Nat.le_refl _) (Nat.le_refl _) (c30_5 c12) ?_
    refine ev_purek ?_
    refine ev_iadd (pc := 33) d_Sh_documentCount_33 ?_
    refine ev_istore_n (pc := 34) d_Sh_documentCount_34 (Nat.le_of_ble_eq_true rfl) [1, 0, 2] rfl ?_
    refine ev_iinc (pc := 35) 2 1 d_Sh_documentCount_35 rfl (by decide) (Nat.le_of_ble_eq_true rfl) [1, 2, 0] rfl ?_
    refine ev_goto (pc := 38) 4 d_Sh_documentCount_38 (by decide) ?_
    exact (k4_6 c12)
set_option maxRecDepth 100000 in
set_option maxHeartbeats 4000000 in
theorem s_Sh_entryCount_0 {l : Launch} {X : ev_X} {bc bs n : Nat} {F : ev_H} {Q : Option Value → Nat → ev_H → Prop} {r0 : Nat} 
    (k4_0 : Ev l X M_Sh_entryCount bc bs 4 [(0, .ref r0), (1, .int 0), (2, .int 0)] [] n F (ev_mq X Q)) :
    Ev l X M_Sh_entryCount bc bs 0 [(0, .ref r0)] [] n F (ev_mq X Q) := by
  refine ev_iconst (pc := 0) 0 d_Sh_entryCount_0 (by decide) ?_
  refine ev_istore_n (pc := 1) d_Sh_entryCount_1 (Nat.le_of_ble_eq_true rfl) [1, 0] rfl ?_
  refine ev_iconst (pc := 2) 0 d_Sh_entryCount_2 (by decide) ?_
  refine ev_istore_n (pc := 3) d_Sh_entryCount_3 (Nat.le_of_ble_eq_true rfl) [1, 2, 0] rfl ?_
  exact k4_0

set_option maxRecDepth 100000 in
set_option maxHeartbeats 4000000 in
theorem s_Sh_entryCount_4 {l : Launch} {X : ev_X} {bc bs n : Nat} {F : ev_H} {Q : Option Value → Nat → ev_H → Prop} {r0 : Nat} {i1 : Int32} {i2 : Int32} {r0p1_elementData : Nat} {ir0p1_size : Int32} {ir0p1_modCount : Int32} {v9 : Int32} {v21 : Nat} {iv21_deletedIds : Int32} {v27 : Int32} (h_r0 : F r0 = some (.inr (3, [.ref (r0 + 1), .ref (r0 + 2)]))) (h_r0p1 : F (r0 + 1) = some (.inr (12, [.ref r0p1_elementData, .int ir0p1_size, .int ir0p1_modCount])))
    (c9_0 : Cal l X M_AL_size 0 0 [.ref (r0 + 1)] n F (ev_pure (.int v9) n F))
    (q39_1 : (v9 ≤ i2) → Q (some (.int i1)) n F)
    (c21_2 : (¬ v9 ≤ i2) → Cal l X M_AL_get 0 0 [.ref (r0 + 1), .int i2] n F (ev_pure (.ref v21) n F))
    (hv21_3 : (¬ v9 ≤ i2) → F v21 = some (.inr (9, [.ref (v21 + 1), .int iv21_deletedIds])))
    (c27_4 : (¬ v9 ≤ i2) → Cal l X M_Sg_entryCount 0 0 [.ref v21] n F (ev_pure (.int v27) n F))
    (k4_5 : (¬ v9 ≤ i2) → Ev l X M_Sh_entryCount bc bs 4 [(0, .ref r0), (1, .int (i1 + v27)), (2, .int (i2 + 1))] [] n F (ev_mq X Q)) :
    Ev l X M_Sh_entryCount bc bs 4 [(0, .ref r0), (1, .int i1), (2, .int i2)] [] n F (ev_mq X Q) := by
  refine ev_iload_n (pc := 4) d_Sh_entryCount_4 rfl ?_
  refine ev_aload_n (pc := 5) d_Sh_entryCount_5 rfl ?_
  refine ev_getfield (pc := 6) 0 d_Sh_entryCount_6 fl_Sh_10 h_r0 rfl ?_
  refine ev_invokevirtual (pc := 9) (As := []) (st := [.int i2]) (Q2 := ev_pure (.int v9) n F) (bc1 := 0) (bs1 := 0) M_AL_size rC12 d_Sh_entryCount_9 lc_Sh_19 wd_469 wd_470 rfl h_r0p1 rfl rfl (Nat.le_of_ble_eq_true rfl) (Nat.le_of_ble_eq_true rfl) (Nat.le_of_ble_eq_true rfl) (Nat.le_refl _) (Nat.le_refl _) c9_0 ?_
  refine ev_purek ?_
  refine ev_icmp_ge (pc := 12) 38 d_Sh_entryCount_12 (by decide) (fun c12 => ?_) (fun c12 => ?_)
  · refine ev_iload_n (pc := 38) d_Sh_entryCount_38 rfl ?_
    exact ev_ireturn (pc := 39) d_Sh_entryCount_39 rfl rfl (q39_1 c12)
  · refine ev_iload_n (pc := 15) d_Sh_entryCount_15 rfl ?_
    refine ev_aload_n (pc := 16) d_Sh_entryCount_16 rfl ?_
    refine ev_getfield (pc := 17) 0 d_Sh_entryCount_17 fl_Sh_10 h_r0 rfl ?_
    refine ev_iload_n (pc := 20) d_Sh_entryCount_20 rfl ?_
    refine ev_invokevirtual (pc := 21) (As := [.int i2]) (st := [.int i1]) (Q2 := ev_pure (.ref v21) n F) (bc1 := 0) (bs1 := 0) M_AL_get rC12 d_Sh_entryCount_21 lc_Sh_23 wd_473 wd_474 rfl h_r0p1 rfl rfl (Nat.le_of_ble_eq_true rfl) (Nat.le_of_ble_eq_true rfl) (Nat.le_of_ble_eq_true rfl) (Nat.le_refl _) (Nat.le_refl _) (c21_2 c12) ?_
    refine ev_purek ?_
    refine ev_checkcast (pc := 24) rC9 d_Sh_entryCount_24 wd_599 wd_1204 rfl (hv21_3 c12) ?_
    refine ev_invokevirtual (pc := 27) (As := []) (st := [.int i1]) (Q2 := ev_pure (.int v27) n F) (bc1 := 0) (bs1 := 0) M_Sg_entryCount rC9 d_Sh_entryCount_27 lc_Sh_87 wd_879 wd_880 rfl (hv21_3 c12) rfl rfl (Nat.le_of_ble_eq_true rfl) (Nat.le_of_ble_eq_true rfl) (Nat.le_of_ble_eq_true rfl) (Nat.le_refl _) (Nat.le_refl _) (c27_4 c12) ?_
    refine ev_purek ?_
    refine ev_iadd (pc := 30) d_Sh_entryCount_30 ?_
    refine ev_istore_n (pc := 31) d_Sh_entryCount_31 (Nat.le_of_ble_eq_true rfl) [1, 0, 2] rfl ?_
    refine ev_iinc (pc := 32) 2 1 d_Sh_entryCount_32 rfl (by decide) (Nat.le_of_ble_eq_true rfl) [1, 2, 0] rfl ?_
    refine ev_goto (pc := 35) 4 d_Sh_entryCount_35 (by decide) ?_
    exact (k4_5 c12)
set_option maxRecDepth 100000 in
set_option maxHeartbeats 4000000 in
theorem s_Sg_entryCount_0 {l : Launch} {X : ev_X} {bc bs n : Nat} {F : ev_H} {Q : Option Value → Nat → ev_H → Prop} {r0 : Nat} 
    (k4_0 : Ev l X M_Sg_entryCount bc bs 4 [(0, .ref r0), (1, .int 0), (2, .int 0)] [] n F (ev_mq X Q)) :
    Ev l X M_Sg_entryCount bc bs 0 [(0, .ref r0)] [] n F (ev_mq X Q) := by
  refine ev_iconst (pc := 0) 0 d_Sg_entryCount_0 (by decide) ?_
  refine ev_istore_n (pc := 1) d_Sg_entryCount_1 (Nat.le_of_ble_eq_true rfl) [1, 0] rfl ?_
  refine ev_iconst (pc := 2) 0 d_Sg_entryCount_2 (by decide) ?_
  refine ev_istore_n (pc := 3) d_Sg_entryCount_3 (Nat.le_of_ble_eq_true rfl) [1, 2, 0] rfl ?_
  exact k4_0

set_option maxRecDepth 100000 in
set_option maxHeartbeats 4000000 in
theorem s_Sg_entryCount_4 {l : Launch} {X : ev_X} {bc bs n : Nat} {F : ev_H} {Q : Option Value → Nat → ev_H → Prop} {r0 : Nat} {i1 : Int32} {i2 : Int32} {ir0_deletedIds : Int32} {r0p1_elementData : Nat} {ir0p1_size : Int32} {ir0p1_modCount : Int32} {v9 : Int32} {v21 : Nat} {iv21_id : Int32} {v21_terms : Nat} {v27 : Int32} (h_r0 : F r0 = some (.inr (9, [.ref (r0 + 1), .int ir0_deletedIds]))) (h_r0p1 : F (r0 + 1) = some (.inr (12, [.ref r0p1_elementData, .int ir0p1_size, .int ir0p1_modCount])))
    (c9_0 : Cal l X M_AL_size 0 0 [.ref (r0 + 1)] n F (ev_pure (.int v9) n F))
    (q39_1 : (v9 ≤ i2) → Q (some (.int i1)) n F)
    (c21_2 : (¬ v9 ≤ i2) → Cal l X M_AL_get 0 0 [.ref (r0 + 1), .int i2] n F (ev_pure (.ref v21) n F))
    (hv21_3 : (¬ v9 ≤ i2) → F v21 = some (.inr (8, [.int iv21_id, .ref v21_terms])))
    (c27_4 : (¬ v9 ≤ i2) → Cal l X M_D_differentTerms 0 0 [.ref v21] n F (ev_pure (.int v27) n F))
    (k4_5 : (¬ v9 ≤ i2) → Ev l X M_Sg_entryCount bc bs 4 [(0, .ref r0), (1, .int (i1 + v27)), (2, .int (i2 + 1))] [] n F (ev_mq X Q)) :
    Ev l X M_Sg_entryCount bc bs 4 [(0, .ref r0), (1, .int i1), (2, .int i2)] [] n F (ev_mq X Q) := by
  refine ev_iload_n (pc := 4) d_Sg_entryCount_4 rfl ?_
  refine ev_aload_n (pc := 5) d_Sg_entryCount_5 rfl ?_
  refine ev_getfield (pc := 6) 0 d_Sg_entryCount_6 fl_Sg_10 h_r0 rfl ?_
  refine ev_invokevirtual (pc := 9) (As := []) (st := [.int i2]) (Q2 := ev_pure (.int v9) n F) (bc1 := 0) (bs1 := 0) M_AL_size rC12 d_Sg_entryCount_9 lc_Sg_35 wd_469 wd_470 rfl h_r0p1 rfl rfl (Nat.le_of_ble_eq_true rfl) (Nat.le_of_ble_eq_true rfl) (Nat.le_of_ble_eq_true rfl) (Nat.le_refl _) (Nat.le_refl _) c9_0 ?_
  refine ev_purek ?_
  refine ev_icmp_ge (pc := 12) 38 d_Sg_entryCount_12 (by decide) (fun c12 => ?_) (fun c12 => ?_)
  · refine ev_iload_n (pc := 38) d_Sg_entryCount_38 rfl ?_
    exact ev_ireturn (pc := 39) d_Sg_entryCount_39 rfl rfl (q39_1 c12)
  · refine ev_iload_n (pc := 15) d_Sg_entryCount_15 rfl ?_
    refine ev_aload_n (pc := 16) d_Sg_entryCount_16 rfl ?_
    refine ev_getfield (pc := 17) 0 d_Sg_entryCount_17 fl_Sg_10 h_r0 rfl ?_
    refine ev_iload_n (pc := 20) d_Sg_entryCount_20 rfl ?_
    refine ev_invokevirtual (pc := 21) (As := [.int i2]) (st := [.int i1]) (Q2 := ev_pure (.ref v21) n F) (bc1 := 0) (bs1 := 0) M_AL_get rC12 d_Sg_entryCount_21 lc_Sg_20 wd_473 wd_474 rfl h_r0p1 rfl rfl (Nat.le_of_ble_eq_true rfl) (Nat.le_of_ble_eq_true rfl) (Nat.le_of_ble_eq_true rfl) (Nat.le_refl _) (Nat.le_refl _) (c21_2 c12) ?_
    refine ev_purek ?_
    refine ev_checkcast (pc := 24) rC8 d_Sg_entryCount_24 wd_671 wd_1203 rfl (hv21_3 c12) ?_
    refine ev_invokevirtual (pc := 27) (As := []) (st := [.int i1]) (Q2 := ev_pure (.int v27) n F) (bc1 := 0) (bs1 := 0) M_D_differentTerms rC8 d_Sg_entryCount_27 lc_Sg_47 wd_883 wd_884 rfl (hv21_3 c12) rfl rfl (Nat.le_of_ble_eq_true rfl) (Nat.le_of_ble_eq_true rfl) (Nat.le_of_ble_eq_true rfl) (Nat.le_refl _) (Nat.le_refl _) (c27_4 c12) ?_
    refine ev_purek ?_
    refine ev_iadd (pc := 30) d_Sg_entryCount_30 ?_
    refine ev_istore_n (pc := 31) d_Sg_entryCount_31 (Nat.le_of_ble_eq_true rfl) [1, 0, 2] rfl ?_
    refine ev_iinc (pc := 32) 2 1 d_Sg_entryCount_32 rfl (by decide) (Nat.le_of_ble_eq_true rfl) [1, 2, 0] rfl ?_
    refine ev_goto (pc := 35) 4 d_Sg_entryCount_35 (by decide) ?_
    exact (k4_5 c12)
