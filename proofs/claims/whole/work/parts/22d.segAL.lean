set_option maxRecDepth 100000 in
set_option maxHeartbeats 4000000 in
theorem s_AbC_init_0 {l : Launch} {X : ev_X} {bc bs n : Nat} {F : ev_H} {Q : Option Value → Nat → ev_H → Prop} {r0 : Nat} 
    (q4_0 : Q none n F) :
    Ev l X M_AbC_init bc bs 0 [(0, .ref r0)] [] n F (ev_mq X Q) := by
  refine ev_aload_n (pc := 0) d_AbC_init_0 rfl ?_
  refine ev_objInit (pc := 1) d_AbC_init_1 wd_70 wd_33 wd_34 (Nat.le_of_ble_eq_true rfl) (Nat.le_of_ble_eq_true rfl) ?_
  exact ev_return (pc := 4) d_AbC_init_4 rfl q4_0
set_option maxRecDepth 100000 in
set_option maxHeartbeats 4000000 in
theorem s_AbL_init_0 {l : Launch} {X : ev_X} {bc bs n : Nat} {F : ev_H} {Q : Option Value → Nat → ev_H → Prop} {r0 : Nat} {Q1 : Option Value → Nat → ev_H → Prop} {bc1 : Nat} {bs1 : Nat} {rc1 : Nat} {rs1 : Nat} (hb_rc1 : rc1 + bc1 ≤ bc) (hs_rs1 : rs1 + bs1 ≤ bs)
    (c1_0 : Cal l X M_AbC_init bc1 bs1 [.ref r0] n F Q1)
    (k4_1 : ∀ v2 n2 F2, Q1 v2 n2 F2 → Ev l X M_AbL_init rc1 rs1 4 [(0, .ref r0)] (v2.toList ++ []) n2 F2 (ev_mq X Q)) :
    Ev l X M_AbL_init bc bs 0 [(0, .ref r0)] [] n F (ev_mq X Q) := by
  refine ev_aload_n (pc := 0) d_AbL_init_0 rfl ?_
  exact ev_init (pc := 1) (As := []) (st := []) (Q2 := Q1) M_AbC_init d_AbL_init_1 lc_AbL_1 rfl rfl wd_68 rfl rfl (Nat.le_of_ble_eq_true rfl) (Nat.le_of_ble_eq_true rfl) (Nat.le_of_ble_eq_true rfl) hb_rc1 hs_rs1 c1_0 k4_1

set_option maxRecDepth 100000 in
set_option maxHeartbeats 4000000 in
theorem s_AbL_init_4 {l : Launch} {X : ev_X} {bc bs n : Nat} {F : ev_H} {Q : Option Value → Nat → ev_H → Prop} {r0 : Nat} {ir0_size : Int32} {ir0_modCount : Int32} (h_r0 : F r0 = some (.inr (12, [.null, .int ir0_size, .int ir0_modCount])))
    (q9_0 : Q none n (ev_up F r0 (.inr (12, [.null, .int ir0_size, .int 0])))) :
    Ev l X M_AbL_init bc bs 4 [(0, .ref r0)] [] n F (ev_mq X Q) := by
  refine ev_aload_n (pc := 4) d_AbL_init_4 rfl ?_
  refine ev_iconst (pc := 5) 0 d_AbL_init_5 (by decide) ?_
  refine ev_putfield (pc := 6) 2 _ d_AbL_init_6 fl_AbL_7 h_r0 pf_12_modCount rfl rfl (Nat.le_of_ble_eq_true rfl) (fun F1_ hF1_ => ?_)
  have g2_ : F1_ r0 = some (.inr (12, [.null, .int ir0_size, .int 0])) := by rw [← hF1_]; exact ev_up_s
  exact ev_return (pc := 9) d_AbL_init_9 rfl (by subst hF1_; exact q9_0)
set_option maxRecDepth 100000 in
set_option maxHeartbeats 4000000 in
theorem s_AL_init_0 {l : Launch} {X : ev_X} {bc bs n : Nat} {F : ev_H} {Q : Option Value → Nat → ev_H → Prop} {r0 : Nat} {Q1 : Option Value → Nat → ev_H → Prop} {bc1 : Nat} {bs1 : Nat} {rc1 : Nat} {rs1 : Nat} (hb_rc1 : rc1 + bc1 ≤ bc) (hs_rs1 : rs1 + bs1 ≤ bs)
    (c1_0 : Cal l X M_AbL_init bc1 bs1 [.ref r0] n F Q1)
    (k4_1 : ∀ v2 n2 F2, Q1 v2 n2 F2 → Ev l X M_AL_init rc1 rs1 4 [(0, .ref r0)] (v2.toList ++ []) n2 F2 (ev_mq X Q)) :
    Ev l X M_AL_init bc bs 0 [(0, .ref r0)] [] n F (ev_mq X Q) := by
  refine ev_aload_n (pc := 0) d_AL_init_0 rfl ?_
  exact ev_init (pc := 1) (As := []) (st := []) (Q2 := Q1) M_AbL_init d_AL_init_1 lc_AL_1 rfl rfl wd_65 rfl rfl (Nat.le_of_ble_eq_true rfl) (Nat.le_of_ble_eq_true rfl) (Nat.le_of_ble_eq_true rfl) hb_rc1 hs_rs1 c1_0 k4_1

set_option maxRecDepth 100000 in
set_option maxHeartbeats 4000000 in
theorem s_AL_init_4 {l : Launch} {X : ev_X} {bc bs n : Nat} {F : ev_H} {Q : Option Value → Nat → ev_H → Prop} {r0 : Nat} {ir0_size : Int32} {ir0_modCount : Int32} (h_r0 : F r0 = some (.inr (12, [.null, .int ir0_size, .int ir0_modCount])))
    (q11_0 : Q none n (ev_up F r0 (.inr (12, [.ref (X.2.2.2.1 1), .int ir0_size, .int ir0_modCount])))) :
    Ev l X M_AL_init bc bs 4 [(0, .ref r0)] [] n F (ev_mq X Q) := by
  refine ev_aload_n (pc := 4) d_AL_init_4 rfl ?_
  refine ev_getstatic (pc := 5) d_AL_init_5 (fun _ h => h.2.2.1.1) (Or.inl wd_71) ?_
  refine ev_putfield (pc := 8) 0 _ d_AL_init_8 fl_AL_9 h_r0 pf_12_elementData rfl rfl (Nat.le_of_ble_eq_true rfl) (fun F1_ hF1_ => ?_)
  have g2_ : F1_ r0 = some (.inr (12, [.ref (X.2.2.2.1 1), .int ir0_size, .int ir0_modCount])) := by rw [← hF1_]; exact ev_up_s
  exact ev_return (pc := 11) d_AL_init_11 rfl (by subst hF1_; exact q11_0)
set_option maxRecDepth 100000 in
set_option maxHeartbeats 4000000 in
theorem s_AL_size_0 {l : Launch} {X : ev_X} {bc bs n : Nat} {F : ev_H} {Q : Option Value → Nat → ev_H → Prop} {r0 : Nat} {r0_elementData : Nat} {ir0_size : Int32} {ir0_modCount : Int32} (h_r0 : F r0 = some (.inr (12, [.ref r0_elementData, .int ir0_size, .int ir0_modCount])))
    (q4_0 : Q (some (.int ir0_size)) n F) :
    Ev l X M_AL_size bc bs 0 [(0, .ref r0)] [] n F (ev_mq X Q) := by
  refine ev_aload_n (pc := 0) d_AL_size_0 rfl ?_
  refine ev_getfield (pc := 1) 1 d_AL_size_1 fl_AL_48 h_r0 rfl ?_
  exact ev_ireturn (pc := 4) d_AL_size_4 rfl rfl q4_0
set_option maxRecDepth 100000 in
set_option maxHeartbeats 4000000 in
theorem s_AL_isEmpty_0 {l : Launch} {X : ev_X} {bc bs n : Nat} {F : ev_H} {Q : Option Value → Nat → ev_H → Prop} {r0 : Nat} {r0_elementData : Nat} {ir0_size : Int32} {ir0_modCount : Int32} (h_r0 : F r0 = some (.inr (12, [.ref r0_elementData, .int ir0_size, .int ir0_modCount])))
    (q12_0 : (¬ ir0_size = 0) → Q (some (.int 0)) n F)
    (q12_1 : (ir0_size = 0) → Q (some (.int 1)) n F) :
    Ev l X M_AL_isEmpty bc bs 0 [(0, .ref r0)] [] n F (ev_mq X Q) := by
  refine ev_aload_n (pc := 0) d_AL_isEmpty_0 rfl ?_
  refine ev_getfield (pc := 1) 1 d_AL_isEmpty_1 fl_AL_48 h_r0 rfl ?_
  refine ev_if_ne (pc := 4) 11 d_AL_isEmpty_4 (by decide) (fun c4 => ?_) (fun c4 => ?_)
  · refine ev_iconst (pc := 11) 0 d_AL_isEmpty_11 (by decide) ?_
    exact ev_ireturn (pc := 12) d_AL_isEmpty_12 rfl rfl (q12_0 c4)
  · refine ev_iconst (pc := 7) 1 d_AL_isEmpty_7 (by decide) ?_
    refine ev_goto (pc := 8) 12 d_AL_isEmpty_8 (by decide) ?_
    exact ev_ireturn (pc := 12) d_AL_isEmpty_12 rfl rfl (q12_1 c4)
set_option maxRecDepth 100000 in
set_option maxHeartbeats 4000000 in
theorem s_AL_elementData_0 {l : Launch} {X : ev_X} {bc bs n : Nat} {F : ev_H} {Q : Option Value → Nat → ev_H → Prop} {r0 : Nat} {i1 : Int32} {r0_elementData : Nat} {ir0_size : Int32} {ir0_modCount : Int32} {r0_elementData_n : Nat} {r0_elementData_f : Nat → Option Nat} {x5 : Nat} (h_r0 : F r0 = some (.inr (12, [.ref r0_elementData, .int ir0_size, .int ir0_modCount]))) (h_r0_elementData : F r0_elementData = some (.inl (5, r0_elementData_n, .inr (.inr (.inr (.inr r0_elementData_f))))))
    (in5_0 : vp_in i1 r0_elementData_n)
    (e5_1 : r0_elementData_f i1.toNatClampNeg = some x5)
    (q6_2 : Q (some (.ref x5)) n F) :
    Ev l X M_AL_elementData bc bs 0 [(0, .ref r0), (1, .int i1)] [] n F (ev_mq X Q) := by
  refine ev_aload_n (pc := 0) d_AL_elementData_0 rfl ?_
  refine ev_getfield (pc := 1) 0 d_AL_elementData_1 fl_AL_9 h_r0 rfl ?_
  refine ev_iload_n (pc := 4) d_AL_elementData_4 rfl ?_
  refine ev_aaload (pc := 5) d_AL_elementData_5 h_r0_elementData rfl rfl in5_0 ?_
  refine ev_rf e5_1 ?_
  exact ev_areturn (pc := 6) d_AL_elementData_6 rfl (Or.inl ⟨_, rfl⟩) (Or.inr ⟨_, rfl⟩) q6_2
set_option maxRecDepth 100000 in
set_option maxHeartbeats 4000000 in
theorem s_AL_get_0 {l : Launch} {X : ev_X} {bc bs n : Nat} {F : ev_H} {Q : Option Value → Nat → ev_H → Prop} {r0 : Nat} {i1 : Int32} {r0_elementData : Nat} {ir0_size : Int32} {ir0_modCount : Int32} {v5 : Int32} {v11 : Nat} (h_r0 : F r0 = some (.inr (12, [.ref r0_elementData, .int ir0_size, .int ir0_modCount])))
    (c5_0 : Cal l X M_Obs_checkIndex 0 0 [.int i1, .int ir0_size] n F (ev_pure (.int v5) n F))
    (c11_1 : Cal l X M_AL_elementData 0 0 [.ref r0, .int i1] n F (ev_pure (.ref v11) n F))
    (q14_2 : Q (some (.ref v11)) n F) :
    Ev l X M_AL_get bc bs 0 [(0, .ref r0), (1, .int i1)] [] n F (ev_mq X Q) := by
  refine ev_iload_n (pc := 0) d_AL_get_0 rfl ?_
  refine ev_aload_n (pc := 1) d_AL_get_1 rfl ?_
  refine ev_getfield (pc := 2) 1 d_AL_get_2 fl_AL_48 h_r0 rfl ?_
  refine ev_invokestatic (pc := 5) (As := [.int i1, .int ir0_size]) (st := []) (Q2 := ev_pure (.int v5) n F) (bc1 := 0) (bs1 := 0) M_Obs_checkIndex d_AL_get_5 lc_AL_118 wd_477 rfl rfl (Nat.le_of_ble_eq_true rfl) (Nat.le_of_ble_eq_true rfl) (Nat.le_of_ble_eq_true rfl) (Nat.le_refl _) (Nat.le_refl _) c5_0 ?_
  refine ev_purek ?_
  refine ev_pop (pc := 8) d_AL_get_8 rfl ?_
  refine ev_aload_n (pc := 9) d_AL_get_9 rfl ?_
  refine ev_iload_n (pc := 10) d_AL_get_10 rfl ?_
  refine ev_invokevirtual (pc := 11) (As := [.int i1]) (st := []) (Q2 := ev_pure (.ref v11) n F) (bc1 := 0) (bs1 := 0) M_AL_elementData rC12 d_AL_get_11 lc_AL_123 wd_481 wd_482 rfl h_r0 rfl rfl (Nat.le_of_ble_eq_true rfl) (Nat.le_of_ble_eq_true rfl) (Nat.le_of_ble_eq_true rfl) (Nat.le_refl _) (Nat.le_refl _) c11_1 ?_
  refine ev_purek ?_
  exact ev_areturn (pc := 14) d_AL_get_14 rfl (Or.inl ⟨_, rfl⟩) (Or.inr ⟨_, rfl⟩) q14_2
set_option maxRecDepth 100000 in
set_option maxHeartbeats 4000000 in
theorem s_ASup_newLength_0 {l : Launch} {X : ev_X} {bc bs n : Nat} {F : ev_H} {Q : Option Value → Nat → ev_H → Prop} {i0 : Int32} {i1 : Int32} {i2 : Int32} {v23 : Int32} {v23_2 : Int32} 
    (c23_0 : ((i0 + (if i1 < i2 then i2 else i1)) ≤ 0) → Cal l X M_ASup_hugeLength 0 0 [.int i0, .int i1] n F (ev_pure (.int v23) n F))
    (q26_1 : ((i0 + (if i1 < i2 then i2 else i1)) ≤ 0) → Q (some (.int v23)) n F)
    (c23_2 : (¬ (i0 + (if i1 < i2 then i2 else i1)) ≤ 0) → (2147483639 < (i0 + (if i1 < i2 then i2 else i1))) → Cal l X M_ASup_hugeLength 0 0 [.int i0, .int i1] n F (ev_pure (.int v23_2) n F))
    (q26_3 : (¬ (i0 + (if i1 < i2 then i2 else i1)) ≤ 0) → (2147483639 < (i0 + (if i1 < i2 then i2 else i1))) → Q (some (.int v23_2)) n F)
    (q20_4 : (¬ (i0 + (if i1 < i2 then i2 else i1)) ≤ 0) → (¬ 2147483639 < (i0 + (if i1 < i2 then i2 else i1))) → Q (some (.int (i0 + (if i1 < i2 then i2 else i1)))) n F) :
    Ev l X M_ASup_newLength bc bs 0 [(0, .int i0), (1, .int i1), (2, .int i2)] [] n F (ev_mq X Q) := by
  refine ev_iload_n (pc := 0) d_ASup_newLength_0 rfl ?_
  refine ev_iload_n (pc := 1) d_ASup_newLength_1 rfl ?_
  refine ev_iload_n (pc := 2) d_ASup_newLength_2 rfl ?_
  refine ev_mmax (pc := 3) d_ASup_newLength_3 wd_513 wd_275 wd_15 wd_276 (Nat.le_of_ble_eq_true rfl) (Nat.le_of_ble_eq_true rfl) ?_
  refine ev_iadd (pc := 6) d_ASup_newLength_6 ?_
  refine ev_istore_n (pc := 7) d_ASup_newLength_7 (Nat.le_of_ble_eq_true rfl) [1, 2, 3, 0] rfl ?_
  refine ev_iconst (pc := 8) 0 d_ASup_newLength_8 (by decide) ?_
  refine ev_iload_n (pc := 9) d_ASup_newLength_9 rfl ?_
  refine ev_icmp_ge (pc := 10) 21 d_ASup_newLength_10 (by decide) (fun c10 => ?_) (fun c10 => ?_)
  · refine ev_iload_n (pc := 21) d_ASup_newLength_21 rfl ?_
    refine ev_iload_n (pc := 22) d_ASup_newLength_22 rfl ?_
    refine ev_invokestatic (pc := 23) (As := [.int i0, .int i1]) (st := []) (Q2 := ev_pure (.int v23) n F) (bc1 := 0) (bs1 := 0) M_ASup_hugeLength d_ASup_newLength_23 lc_ASup_201 wd_516 rfl rfl (Nat.le_of_ble_eq_true rfl) (Nat.le_of_ble_eq_true rfl) (Nat.le_of_ble_eq_true rfl) (Nat.le_refl _) (Nat.le_refl _) (c23_0 c10) ?_
    refine ev_purek ?_
    exact ev_ireturn (pc := 26) d_ASup_newLength_26 rfl rfl (q26_1 c10)
  · refine ev_iload_n (pc := 13) d_ASup_newLength_13 rfl ?_
    refine ev_ldc (pc := 14) (v := 2147483639) d_ASup_newLength_14 wd_514 ?_
    refine ev_icmp_gt (pc := 16) 21 d_ASup_newLength_16 (by decide) (fun c16 => ?_) (fun c16 => ?_)
    · refine ev_iload_n (pc := 21) d_ASup_newLength_21 rfl ?_
      refine ev_iload_n (pc := 22) d_ASup_newLength_22 rfl ?_
      refine ev_invokestatic (pc := 23) (As := [.int i0, .int i1]) (st := []) (Q2 := ev_pure (.int v23_2) n F) (bc1 := 0) (bs1 := 0) M_ASup_hugeLength d_ASup_newLength_23 lc_ASup_201 wd_516 rfl rfl (Nat.le_of_ble_eq_true rfl) (Nat.le_of_ble_eq_true rfl) (Nat.le_of_ble_eq_true rfl) (Nat.le_refl _) (Nat.le_refl _) (c23_2 c10 c16) ?_
      refine ev_purek ?_
      exact ev_ireturn (pc := 26) d_ASup_newLength_26 rfl rfl (q26_3 c10 c16)
    · refine ev_iload_n (pc := 19) d_ASup_newLength_19 rfl ?_
      exact ev_ireturn (pc := 20) d_ASup_newLength_20 rfl rfl (q20_4 c10 c16)
set_option maxRecDepth 100000 in
set_option maxHeartbeats 4000000 in
theorem s_Arr_copyOf3_0 {l : Launch} {X : ev_X} {bc bs n : Nat} {F : ev_H} {Q : Option Value → Nat → ev_H → Prop} {r0 : Nat} {i1 : Int32} {rc7 : Nat} {rs7 : Nat} {N7 : Nat} {r0_n : Nat} {r0_f : Nat → Option Nat} (hb_rc7 : rc7 + 1 ≤ bc) (hs_rs7 : rs7 + N7 ≤ bs) (h_r0 : F r0 = some (.inl (5, r0_n, .inr (.inr (.inr (.inr r0_f)))))) (ne_r0_n : r0 ≠ n)
    (nn7_0 : ¬ i1 < 0)
    (nN7_1 : i1.toNatClampNeg = N7)
    (nB7_2 : N7 * 4 ≤ 536870912)
    (cp35_3 : (¬ (0 : Int32) < 0 ∧ ¬ (0 : Int32) < 0 ∧ ¬ (if i1 < (nI r0_n) then i1 else nI r0_n) < 0) ∧ (0 : Int32).toNatClampNeg + (if i1 < (nI r0_n) then i1 else nI r0_n).toNatClampNeg ≤ r0_n ∧ (0 : Int32).toNatClampNeg + (if i1 < (nI r0_n) then i1 else nI r0_n).toNatClampNeg ≤ N7)
    (el35_4 : ∀ i : Nat, i < (if i1 < (nI r0_n) then i1 else nI r0_n).toNatClampNeg → ∀ y : Nat, r0_f ((0 : Int32).toNatClampNeg + i) = some y → isO (ev_up F n (.inl (5, N7, .inr (.inr (.inr (.inr (fun _ => none))))))) y)
    (q39_5 : Q (some (.ref n)) (n + 1) (ev_up (ev_up F n (.inl (5, N7, .inr (.inr (.inr (.inr (fun _ => none))))))) n (.inl (5, N7, .inr (.inr (.inr (.inr (va_cpy r0_f (fun _ => none) (0 : Int32).toNatClampNeg (0 : Int32).toNatClampNeg (if i1 < (nI r0_n) then i1 else nI r0_n).toNatClampNeg)))))))) :
    Ev l X M_Arr_copyOf3 bc bs 0 [(0, .ref r0), (1, .int i1), (2, .ref (X.2.2.2.1 3))] [] n F (ev_mq X Q) := by
  refine ev_aload_n (pc := 0) d_Arr_copyOf3_0 rfl ?_
  refine ev_ldcM (pc := 1) d_Arr_copyOf3_1 wd_541 ?_
  refine ev_acmp_ne (pc := 3) (a := some (X.2.2.2.1 3)) (b := some (X.2.2.2.1 3)) 13 d_Arr_copyOf3_3 (by decide) (fun c3 => absurd rfl c3) (fun _ => ?_)
  refine ev_iload_n (pc := 6) d_Arr_copyOf3_6 rfl ?_
  refine ev_fresh fun fr7 => ?_
  refine ev_anew (pc := 7) N7 d_Arr_copyOf3_7 wd_543 nn7_0 nN7_1 nB7_2 (bc2 := rc7) (bs2 := rs7) hb_rc7 hs_rs7 (fun F1_ hF1_ => ?_)
  have g2_ : F1_ n = some (.inl (5, N7, .inr (.inr (.inr (.inr (fun _ => none)))))) := by rw [← hF1_]; exact ev_up_s
  refine ev_goto (pc := 10) 24 d_Arr_copyOf3_10 (by decide) ?_
  refine ev_astore_n (pc := 24) d_Arr_copyOf3_24 (Nat.le_of_ble_eq_true rfl) [1, 2, 3, 0] rfl ?_
  refine ev_aload_n (pc := 25) d_Arr_copyOf3_25 rfl ?_
  refine ev_iconst (pc := 26) 0 d_Arr_copyOf3_26 (by decide) ?_
  refine ev_aload_n (pc := 27) d_Arr_copyOf3_27 rfl ?_
  refine ev_iconst (pc := 28) 0 d_Arr_copyOf3_28 (by decide) ?_
  refine ev_aload_n (pc := 29) d_Arr_copyOf3_29 rfl ?_
  have g3_ : F1_ r0 = some (.inl (5, r0_n, .inr (.inr (.inr (.inr r0_f))))) := by rw [← hF1_]; exact ev_up_k (ev_nf h_r0 (fr7 _ (Nat.le_refl _))) h_r0
  refine ev_alen (pc := 30) d_Arr_copyOf3_30 g3_ rfl ?_
  refine ev_iload_n (pc := 31) d_Arr_copyOf3_31 rfl ?_
  refine ev_mmin (pc := 32) d_Arr_copyOf3_32 wd_440 wd_278 wd_15 wd_279 (Nat.le_of_ble_eq_true rfl) (Nat.le_of_ble_eq_true rfl) ?_
  refine ev_copyq (pc := 35) d_Arr_copyOf3_35 wd_441 g3_ g2_ cp35_3 (by subst hF1_; exact el35_4) (Nat.le_of_ble_eq_true rfl) (Nat.le_of_ble_eq_true rfl) (fun F4_ hF4_ => ?_)
  have g5_ : F4_ r0 = some (.inl (5, r0_n, .inr (.inr (.inr (.inr r0_f))))) := by rw [← hF4_]; exact ev_up_k ne_r0_n g3_
  have g6_ : F4_ n = some (.inl (5, N7, .inr (.inr (.inr (.inr (va_cpy r0_f (fun _ => none) (0 : Int32).toNatClampNeg (0 : Int32).toNatClampNeg (if i1 < (nI r0_n) then i1 else nI r0_n).toNatClampNeg)))))) := by rw [← hF4_]; exact ev_up_s
  refine ev_aload_n (pc := 38) d_Arr_copyOf3_38 rfl ?_
  exact ev_areturn (pc := 39) d_Arr_copyOf3_39 rfl (Or.inr ⟨_, rfl⟩) (Or.inr ⟨_, rfl⟩) (by subst hF1_ hF4_; exact q39_5)
set_option maxRecDepth 100000 in
set_option maxHeartbeats 4000000 in
theorem s_Arr_copyOf2_0 {l : Launch} {X : ev_X} {bc bs n : Nat} {F : ev_H} {Q : Option Value → Nat → ev_H → Prop} {r0 : Nat} {i1 : Int32} {r0_n : Nat} {r0_f : Nat → Option Nat} {Q6 : Option Value → Nat → ev_H → Prop} {bc6 : Nat} {bs6 : Nat} {rc6 : Nat} {rs6 : Nat} (h_r0 : F r0 = some (.inl (5, r0_n, .inr (.inr (.inr (.inr r0_f)))))) (hb_rc6 : rc6 + bc6 ≤ bc) (hs_rs6 : rs6 + bs6 ≤ bs)
    (c6_0 : Cal l X M_Arr_copyOf3 bc6 bs6 [.ref r0, .int i1, .ref (X.2.2.2.1 3)] n F Q6)
    (k9_1 : ∀ v2 n2 F2, Q6 v2 n2 F2 → Ev l X M_Arr_copyOf2 rc6 rs6 9 [(0, .ref r0), (1, .int i1)] (v2.toList ++ []) n2 F2 (ev_mq X Q)) :
    Ev l X M_Arr_copyOf2 bc bs 0 [(0, .ref r0), (1, .int i1)] [] n F (ev_mq X Q) := by
  refine ev_aload_n (pc := 0) d_Arr_copyOf2_0 rfl ?_
  refine ev_iload_n (pc := 1) d_Arr_copyOf2_1 rfl ?_
  refine ev_aload_n (pc := 2) d_Arr_copyOf2_2 rfl ?_
  refine ev_getC (pc := 3) d_Arr_copyOf2_3 wd_521 h_r0 (Nat.le_of_ble_eq_true rfl) (Nat.le_of_ble_eq_true rfl) ?_
  exact ev_invokestatic (pc := 6) (As := [.ref r0, .int i1, .ref (X.2.2.2.1 3)]) (st := []) (Q2 := Q6) M_Arr_copyOf3 d_Arr_copyOf2_6 lc_Arr_300 wd_539 rfl rfl (Nat.le_of_ble_eq_true rfl) (Nat.le_of_ble_eq_true rfl) (Nat.le_of_ble_eq_true rfl) hb_rc6 hs_rs6 c6_0 k9_1

set_option maxRecDepth 100000 in
set_option maxHeartbeats 4000000 in
theorem s_Arr_copyOf2_9 {l : Launch} {X : ev_X} {bc bs n : Nat} {F : ev_H} {Q : Option Value → Nat → ev_H → Prop} {r0 : Nat} {i1 : Int32} {rs0 : Nat} 
    (q9_0 : Q (some (.ref rs0)) n F) :
    Ev l X M_Arr_copyOf2 bc bs 9 [(0, .ref r0), (1, .int i1)] [.ref rs0] n F (ev_mq X Q) := by
  exact ev_areturn (pc := 9) d_Arr_copyOf2_9 rfl (Or.inr ⟨_, rfl⟩) (Or.inr ⟨_, rfl⟩) q9_0
set_option maxRecDepth 100000 in
set_option maxHeartbeats 4000000 in
theorem s_Arr_copyOf_0 {l : Launch} {X : ev_X} {bc bs n : Nat} {F : ev_H} {Q : Option Value → Nat → ev_H → Prop} {r0 : Nat} {i1 : Int32} {r0_n : Nat} {r0_f : Nat → Int64} {rc15 : Nat} {rs15 : Nat} {N15 : Nat} {rc7 : Nat} {rs7 : Nat} (h_r0 : F r0 = some (.inl (1, r0_n, .inr (.inl r0_f)))) (hb_rc15 : rc15 + 1 ≤ bc) (hs_rs15 : rs15 + N15 ≤ bs) (ne_r0_n : r0 ≠ n) (hb_rc7 : rc7 + 1 ≤ bc) (hs_rs7 : rs7 + r0_n ≤ bs)
    (nn15_0 : (¬ i1 = (nI r0_n)) → ¬ i1 < 0)
    (nN15_1 : (¬ i1 = (nI r0_n)) → i1.toNatClampNeg = N15)
    (nB15_2 : (¬ i1 = (nI r0_n)) → N15 * componentBytes .long ≤ 536870912)
    (cp28_3 : (¬ i1 = (nI r0_n)) → (¬ (0 : Int32) < 0 ∧ ¬ (0 : Int32) < 0 ∧ ¬ (if i1 < (nI r0_n) then i1 else nI r0_n) < 0) ∧ (0 : Int32).toNatClampNeg + (if i1 < (nI r0_n) then i1 else nI r0_n).toNatClampNeg ≤ r0_n ∧ (0 : Int32).toNatClampNeg + (if i1 < (nI r0_n) then i1 else nI r0_n).toNatClampNeg ≤ N15)
    (q32_4 : (¬ i1 = (nI r0_n)) → Q (some (.ref n)) (n + 1) (ev_up (ev_up F n (.inl (1, N15, .inr (.inl (fun _ => 0))))) n (.inl (1, N15, .inr (.inl (va_cpy r0_f (fun _ => 0) (0 : Int32).toNatClampNeg (0 : Int32).toNatClampNeg (if i1 < (nI r0_n) then i1 else nI r0_n).toNatClampNeg))))))
    (q13_5 : (i1 = (nI r0_n)) → Q (some (.ref n)) (n + 1) (ev_up F n (.inl (1, r0_n, .inr (.inl r0_f))))) :
    Ev l X M_Arr_copyOf bc bs 0 [(0, .ref r0), (1, .int i1)] [] n F (ev_mq X Q) := by
  refine ev_iload_n (pc := 0) d_Arr_copyOf_0 rfl ?_
  refine ev_aload_n (pc := 1) d_Arr_copyOf_1 rfl ?_
  refine ev_alen (pc := 2) d_Arr_copyOf_2 h_r0 rfl ?_
  refine ev_icmp_ne (pc := 3) 14 d_Arr_copyOf_3 (by decide) (fun c3 => ?_) (fun c3 => ?_)
  · refine ev_iload_n (pc := 14) d_Arr_copyOf_14 rfl ?_
    refine ev_fresh fun fr15 => ?_
    refine ev_newarray (pc := 15) 1 N15 (N15, .inr (.inl (fun _ => 0))) d_Arr_copyOf_15 wd_85 rfl rfl (fun _ _ h => h) (fun _ => rfl) (nn15_0 c3) (nN15_1 c3) (nB15_2 c3) (bc2 := rc15) (bs2 := rs15) hb_rc15 hs_rs15 (fun F1_ hF1_ => ?_)
    have g2_ : F1_ r0 = some (.inl (1, r0_n, .inr (.inl r0_f))) := by rw [← hF1_]; exact ev_up_k (ev_nf h_r0 (fr15 _ (Nat.le_refl _))) h_r0
    have g3_ : F1_ n = some (.inl (1, N15, .inr (.inl (fun _ => 0)))) := by rw [← hF1_]; exact ev_up_s
    refine ev_astore_n (pc := 17) d_Arr_copyOf_17 (Nat.le_of_ble_eq_true rfl) [1, 2, 0] rfl ?_
    refine ev_aload_n (pc := 18) d_Arr_copyOf_18 rfl ?_
    refine ev_iconst (pc := 19) 0 d_Arr_copyOf_19 (by decide) ?_
    refine ev_aload_n (pc := 20) d_Arr_copyOf_20 rfl ?_
    refine ev_iconst (pc := 21) 0 d_Arr_copyOf_21 (by decide) ?_
    refine ev_aload_n (pc := 22) d_Arr_copyOf_22 rfl ?_
    refine ev_alen (pc := 23) d_Arr_copyOf_23 g2_ rfl ?_
    refine ev_iload_n (pc := 24) d_Arr_copyOf_24 rfl ?_
    refine ev_mmin (pc := 25) d_Arr_copyOf_25 wd_440 wd_278 wd_15 wd_279 (Nat.le_of_ble_eq_true rfl) (Nat.le_of_ble_eq_true rfl) ?_
    refine ev_copyl (pc := 28) d_Arr_copyOf_28 wd_441 g2_ g3_ (cp28_3 c3) (Nat.le_of_ble_eq_true rfl) (Nat.le_of_ble_eq_true rfl) (fun F4_ hF4_ => ?_)
    have g5_ : F4_ r0 = some (.inl (1, r0_n, .inr (.inl r0_f))) := by rw [← hF4_]; exact ev_up_k ne_r0_n g2_
    have g6_ : F4_ n = some (.inl (1, N15, .inr (.inl (va_cpy r0_f (fun _ => 0) (0 : Int32).toNatClampNeg (0 : Int32).toNatClampNeg (if i1 < (nI r0_n) then i1 else nI r0_n).toNatClampNeg)))) := by rw [← hF4_]; exact ev_up_s
    refine ev_aload_n (pc := 31) d_Arr_copyOf_31 rfl ?_
    exact ev_areturn (pc := 32) d_Arr_copyOf_32 rfl (Or.inr ⟨_, rfl⟩) (Or.inr ⟨_, rfl⟩) (by subst hF1_ hF4_; exact (q32_4 c3))
  · refine ev_aload_n (pc := 6) d_Arr_copyOf_6 rfl ?_
    refine ev_fresh fun fr7 => ?_
    refine ev_clone (pc := 7) d_Arr_copyOf_7 wd_433 h_r0 (Nat.le_of_ble_eq_true rfl) (Nat.le_of_ble_eq_true rfl) (bc2 := rc7) (bs2 := rs7) hb_rc7 hs_rs7 (fun F7_ hF7_ => ?_)
    have g8_ : F7_ r0 = some (.inl (1, r0_n, .inr (.inl r0_f))) := by rw [← hF7_]; exact ev_up_k (ev_nf h_r0 (fr7 _ (Nat.le_refl _))) h_r0
    have g9_ : F7_ n = some (.inl (1, r0_n, .inr (.inl r0_f))) := by rw [← hF7_]; exact ev_up_s
    refine ev_castJ (pc := 10) d_Arr_copyOf_10 wd_439 g9_ ?_
    exact ev_areturn (pc := 13) d_Arr_copyOf_13 rfl (Or.inr ⟨_, rfl⟩) (Or.inr ⟨_, rfl⟩) (by subst hF7_; exact (q13_5 c3))
set_option maxRecDepth 100000 in
set_option maxHeartbeats 4000000 in
theorem s_AL_grow2_0 {l : Launch} {X : ev_X} {bc bs n : Nat} {F : ev_H} {Q : Option Value → Nat → ev_H → Prop} {r0 : Nat} {i1 : Int32} {r0_elementData : Nat} {ir0_size : Int32} {ir0_modCount : Int32} {r0_elementData_n : Nat} {r0_elementData_f : Nat → Option Nat} {v27 : Int32} {Q37 : Option Value → Nat → ev_H → Prop} {bc37 : Nat} {bs37 : Nat} {rc37 : Nat} {rs37 : Nat} {rc52 : Nat} {rs52 : Nat} {N52 : Nat} {v27_2 : Int32} {Q37_2 : Option Value → Nat → ev_H → Prop} {bc37_2 : Nat} {bs37_2 : Nat} {rc37_2 : Nat} {rs37_2 : Nat} (h_r0 : F r0 = some (.inr (12, [.ref r0_elementData, .int ir0_size, .int ir0_modCount]))) (h_r0_elementData : F r0_elementData = some (.inl (5, r0_elementData_n, .inr (.inr (.inr (.inr r0_elementData_f)))))) (hb_rc37 : rc37 + bc37 ≤ bc) (hs_rs37 : rs37 + bs37 ≤ bs) (hb_rc52 : rc52 + 1 ≤ bc) (hs_rs52 : rs52 + N52 ≤ bs) (hb_rc37_2 : rc37_2 + bc37_2 ≤ bc) (hs_rs37_2 : rs37_2 + bs37_2 ≤ bs)
    (c27_0 : (0 < (nI r0_elementData_n)) → Cal l X M_ASup_newLength 0 0 [.int (nI r0_elementData_n), .int (i1 - (nI r0_elementData_n)), .int ((nI r0_elementData_n) >>> (1 &&& 31))] n F (ev_pure (.int v27) n F))
    (c37_1 : (0 < (nI r0_elementData_n)) → Cal l X M_Arr_copyOf2 bc37 bs37 [.ref r0_elementData, .int v27] n F Q37)
    (k40_2 : (0 < (nI r0_elementData_n)) → ∀ v2 n2 F2, Q37 v2 n2 F2 → Ev l X M_AL_grow2 rc37 rs37 40 [(0, .ref r0), (1, .int i1), (2, .int (nI r0_elementData_n)), (3, .int v27)] (v2.toList ++ [.ref r0]) n2 F2 (ev_mq X Q))
    (nn52_3 : (¬ 0 < (nI r0_elementData_n)) → (some r0_elementData = some (X.2.2.2.1 1)) → ¬ (if 10 < i1 then i1 else 10) < 0)
    (nN52_4 : (¬ 0 < (nI r0_elementData_n)) → (some r0_elementData = some (X.2.2.2.1 1)) → (if 10 < i1 then i1 else 10).toNatClampNeg = N52)
    (nB52_5 : (¬ 0 < (nI r0_elementData_n)) → (some r0_elementData = some (X.2.2.2.1 1)) → N52 * 4 ≤ 536870912)
    (q59_6 : (¬ 0 < (nI r0_elementData_n)) → (some r0_elementData = some (X.2.2.2.1 1)) → Q (some (.ref n)) (n + 1) (ev_up (ev_up F n (.inl (5, N52, .inr (.inr (.inr (.inr (fun _ => none))))))) r0 (.inr (12, [.ref n, .int ir0_size, .int ir0_modCount]))))
    (c27_7 : (¬ 0 < (nI r0_elementData_n)) → (¬ some r0_elementData = some (X.2.2.2.1 1)) → Cal l X M_ASup_newLength 0 0 [.int (nI r0_elementData_n), .int (i1 - (nI r0_elementData_n)), .int ((nI r0_elementData_n) >>> (1 &&& 31))] n F (ev_pure (.int v27_2) n F))
    (c37_8 : (¬ 0 < (nI r0_elementData_n)) → (¬ some r0_elementData = some (X.2.2.2.1 1)) → Cal l X M_Arr_copyOf2 bc37_2 bs37_2 [.ref r0_elementData, .int v27_2] n F Q37_2)
    (k40_9 : (¬ 0 < (nI r0_elementData_n)) → (¬ some r0_elementData = some (X.2.2.2.1 1)) → ∀ v2 n2 F2, Q37_2 v2 n2 F2 → Ev l X M_AL_grow2 rc37_2 rs37_2 40 [(0, .ref r0), (1, .int i1), (2, .int (nI r0_elementData_n)), (3, .int v27_2)] (v2.toList ++ [.ref r0]) n2 F2 (ev_mq X Q)) :
    Ev l X M_AL_grow2 bc bs 0 [(0, .ref r0), (1, .int i1)] [] n F (ev_mq X Q) := by
  refine ev_aload_n (pc := 0) d_AL_grow2_0 rfl ?_
  refine ev_getfield (pc := 1) 0 d_AL_grow2_1 fl_AL_9 h_r0 rfl ?_
  refine ev_alen (pc := 4) d_AL_grow2_4 h_r0_elementData rfl ?_
  refine ev_istore_n (pc := 5) d_AL_grow2_5 (Nat.le_of_ble_eq_true rfl) [1, 2, 0] rfl ?_
  refine ev_iload_n (pc := 6) d_AL_grow2_6 rfl ?_
  refine ev_if_gt (pc := 7) 20 d_AL_grow2_7 (by decide) (fun c7 => ?_) (fun c7 => ?_)
  · refine ev_iload_n (pc := 20) d_AL_grow2_20 rfl ?_
    refine ev_iload_n (pc := 21) d_AL_grow2_21 rfl ?_
    refine ev_iload_n (pc := 22) d_AL_grow2_22 rfl ?_
    refine ev_isub (pc := 23) d_AL_grow2_23 ?_
    refine ev_iload_n (pc := 24) d_AL_grow2_24 rfl ?_
    refine ev_iconst (pc := 25) 1 d_AL_grow2_25 (by decide) ?_
    refine ev_ishr (pc := 26) d_AL_grow2_26 ?_
    refine ev_invokestatic (pc := 27) (As := [.int (nI r0_elementData_n), .int (i1 - (nI r0_elementData_n)), .int ((nI r0_elementData_n) >>> (1 &&& 31))]) (st := []) (Q2 := ev_pure (.int v27) n F) (bc1 := 0) (bs1 := 0) M_ASup_newLength d_AL_grow2_27 lc_AL_73 wd_511 rfl rfl (Nat.le_of_ble_eq_true rfl) (Nat.le_of_ble_eq_true rfl) (Nat.le_of_ble_eq_true rfl) (Nat.le_refl _) (Nat.le_refl _) (c27_0 c7) ?_
    refine ev_purek ?_
    refine ev_istore_n (pc := 30) d_AL_grow2_30 (Nat.le_of_ble_eq_true rfl) [1, 2, 3, 0] rfl ?_
    refine ev_aload_n (pc := 31) d_AL_grow2_31 rfl ?_
    refine ev_aload_n (pc := 32) d_AL_grow2_32 rfl ?_
    refine ev_getfield (pc := 33) 0 d_AL_grow2_33 fl_AL_9 h_r0 rfl ?_
    refine ev_iload_n (pc := 36) d_AL_grow2_36 rfl ?_
    exact ev_invokestatic (pc := 37) (As := [.ref r0_elementData, .int v27]) (st := [.ref r0]) (Q2 := Q37) M_Arr_copyOf2 d_AL_grow2_37 lc_AL_66 wd_519 rfl rfl (Nat.le_of_ble_eq_true rfl) (Nat.le_of_ble_eq_true rfl) (Nat.le_of_ble_eq_true rfl) hb_rc37 hs_rs37 (c37_1 c7) (k40_2 c7)
  · refine ev_aload_n (pc := 10) d_AL_grow2_10 rfl ?_
    refine ev_getfield (pc := 11) 0 d_AL_grow2_11 fl_AL_9 h_r0 rfl ?_
    refine ev_getstatic (pc := 14) d_AL_grow2_14 (fun _ h => h.2.2.1.1) (Or.inl wd_71) ?_
    refine ev_acmp_eq (pc := 17) (a := some r0_elementData) (b := some (X.2.2.2.1 1)) 45 d_AL_grow2_17 (by decide) (fun c17 => ?_) (fun c17 => ?_)
    · refine ev_aload_n (pc := 45) d_AL_grow2_45 rfl ?_
      refine ev_bipush (pc := 46) 10 d_AL_grow2_46 (by decide) ?_
      refine ev_iload_n (pc := 48) d_AL_grow2_48 rfl ?_
      refine ev_mmax (pc := 49) d_AL_grow2_49 wd_544 wd_275 wd_15 wd_276 (Nat.le_of_ble_eq_true rfl) (Nat.le_of_ble_eq_true rfl) ?_
      refine ev_fresh fun fr52 => ?_
      refine ev_anew (pc := 52) N52 d_AL_grow2_52 wd_545 (nn52_3 c7 c17) (nN52_4 c7 c17) (nB52_5 c7 c17) (bc2 := rc52) (bs2 := rs52) hb_rc52 hs_rs52 (fun F1_ hF1_ => ?_)
      have g2_ : F1_ r0 = some (.inr (12, [.ref r0_elementData, .int ir0_size, .int ir0_modCount])) := by rw [← hF1_]; exact ev_up_k (ev_nf h_r0 (fr52 _ (Nat.le_refl _))) h_r0
      have g3_ : F1_ r0_elementData = some (.inl (5, r0_elementData_n, .inr (.inr (.inr (.inr r0_elementData_f))))) := by rw [← hF1_]; exact ev_up_k (ev_nf h_r0_elementData (fr52 _ (Nat.le_refl _))) h_r0_elementData
      have g4_ : F1_ n = some (.inl (5, N52, .inr (.inr (.inr (.inr (fun _ => none)))))) := by rw [← hF1_]; exact ev_up_s
      refine ev_dup_x1 (pc := 55) d_AL_grow2_55 rfl rfl ?_
      refine ev_putfield (pc := 56) 0 _ d_AL_grow2_56 fl_AL_9 g2_ pf_12_elementData rfl rfl (Nat.le_of_ble_eq_true rfl) (fun F5_ hF5_ => ?_)
      have g6_ : F5_ r0_elementData = some (.inl (5, r0_elementData_n, .inr (.inr (.inr (.inr r0_elementData_f))))) := by rw [← hF5_]; exact ev_up_k (ev_ne_ao g3_ g2_) g3_
      have g7_ : F5_ n = some (.inl (5, N52, .inr (.inr (.inr (.inr (fun _ => none)))))) := by rw [← hF5_]; exact ev_up_k (ev_ne_ao g4_ g2_) g4_
      have g8_ : F5_ r0 = some (.inr (12, [.ref n, .int ir0_size, .int ir0_modCount])) := by rw [← hF5_]; exact ev_up_s
      exact ev_areturn (pc := 59) d_AL_grow2_59 rfl (Or.inr ⟨_, rfl⟩) (Or.inr ⟨_, rfl⟩) (by subst hF1_ hF5_; exact (q59_6 c7 c17))
    · refine ev_iload_n (pc := 20) d_AL_grow2_20 rfl ?_
      refine ev_iload_n (pc := 21) d_AL_grow2_21 rfl ?_
      refine ev_iload_n (pc := 22) d_AL_grow2_22 rfl ?_
      refine ev_isub (pc := 23) d_AL_grow2_23 ?_
      refine ev_iload_n (pc := 24) d_AL_grow2_24 rfl ?_
      refine ev_iconst (pc := 25) 1 d_AL_grow2_25 (by decide) ?_
      refine ev_ishr (pc := 26) d_AL_grow2_26 ?_
      refine ev_invokestatic (pc := 27) (As := [.int (nI r0_elementData_n), .int (i1 - (nI r0_elementData_n)), .int ((nI r0_elementData_n) >>> (1 &&& 31))]) (st := []) (Q2 := ev_pure (.int v27_2) n F) (bc1 := 0) (bs1 := 0) M_ASup_newLength d_AL_grow2_27 lc_AL_73 wd_511 rfl rfl (Nat.le_of_ble_eq_true rfl) (Nat.le_of_ble_eq_true rfl) (Nat.le_of_ble_eq_true rfl) (Nat.le_refl _) (Nat.le_refl _) (c27_7 c7 c17) ?_
      refine ev_purek ?_
      refine ev_istore_n (pc := 30) d_AL_grow2_30 (Nat.le_of_ble_eq_true rfl) [1, 2, 3, 0] rfl ?_
      refine ev_aload_n (pc := 31) d_AL_grow2_31 rfl ?_
      refine ev_aload_n (pc := 32) d_AL_grow2_32 rfl ?_
      refine ev_getfield (pc := 33) 0 d_AL_grow2_33 fl_AL_9 h_r0 rfl ?_
      refine ev_iload_n (pc := 36) d_AL_grow2_36 rfl ?_
      exact ev_invokestatic (pc := 37) (As := [.ref r0_elementData, .int v27_2]) (st := [.ref r0]) (Q2 := Q37_2) M_Arr_copyOf2 d_AL_grow2_37 lc_AL_66 wd_519 rfl rfl (Nat.le_of_ble_eq_true rfl) (Nat.le_of_ble_eq_true rfl) (Nat.le_of_ble_eq_true rfl) hb_rc37_2 hs_rs37_2 (c37_8 c7 c17) (k40_9 c7 c17)

set_option maxRecDepth 100000 in
set_option maxHeartbeats 4000000 in
theorem s_AL_grow2_40 {l : Launch} {X : ev_X} {bc bs n : Nat} {F : ev_H} {Q : Option Value → Nat → ev_H → Prop} {r0 : Nat} {i1 : Int32} {i2 : Int32} {i3 : Int32} {rs0 : Nat} {rs1 : Nat} {rs0_elementData : Nat} {irs0_size : Int32} {irs0_modCount : Int32} (h_rs0 : F rs0 = some (.inr (12, [.ref rs0_elementData, .int irs0_size, .int irs0_modCount])))
    (q44_0 : Q (some (.ref rs1)) n (ev_up F rs0 (.inr (12, [.ref rs1, .int irs0_size, .int irs0_modCount])))) :
    Ev l X M_AL_grow2 bc bs 40 [(0, .ref r0), (1, .int i1), (2, .int i2), (3, .int i3)] [.ref rs1, .ref rs0] n F (ev_mq X Q) := by
  refine ev_dup_x1 (pc := 40) d_AL_grow2_40 rfl rfl ?_
  refine ev_putfield (pc := 41) 0 _ d_AL_grow2_41 fl_AL_9 h_rs0 pf_12_elementData rfl rfl (Nat.le_of_ble_eq_true rfl) (fun F1_ hF1_ => ?_)
  have g2_ : F1_ rs0 = some (.inr (12, [.ref rs1, .int irs0_size, .int irs0_modCount])) := by rw [← hF1_]; exact ev_up_s
  exact ev_areturn (pc := 44) d_AL_grow2_44 rfl (Or.inr ⟨_, rfl⟩) (Or.inr ⟨_, rfl⟩) (by subst hF1_; exact q44_0)
set_option maxRecDepth 100000 in
set_option maxHeartbeats 4000000 in
theorem s_AL_grow2E_0 {l : Launch} {X : ev_X} {bc bs n : Nat} {F : ev_H} {Q : Option Value → Nat → ev_H → Prop} {r0 : Nat} {i1 : Int32} {ir0_size : Int32} {ir0_modCount : Int32} {v27 : Int32} {Q37 : Option Value → Nat → ev_H → Prop} {bc37 : Nat} {bs37 : Nat} {rc37 : Nat} {rs37 : Nat} {rc52 : Nat} {rs52 : Nat} {N52 : Nat} (h_r0 : F r0 = some (.inr (12, [.ref (X.2.2.2.1 1), .int ir0_size, .int ir0_modCount]))) (hb_rc37 : rc37 + bc37 ≤ bc) (hs_rs37 : rs37 + bs37 ≤ bs) (hb_rc52 : rc52 + 1 ≤ bc) (hs_rs52 : rs52 + N52 ≤ bs)
    (c27_0 : (0 < (nI 0)) → Cal l X M_ASup_newLength 0 0 [.int (nI 0), .int (i1 - (nI 0)), .int ((nI 0) >>> (1 &&& 31))] n F (ev_pure (.int v27) n F))
    (c37_1 : (0 < (nI 0)) → Cal l X M_Arr_copyOf2 bc37 bs37 [.ref (X.2.2.2.1 1), .int v27] n F Q37)
    (k40_2 : (0 < (nI 0)) → ∀ v2 n2 F2, Q37 v2 n2 F2 → Ev l X M_AL_grow2 rc37 rs37 40 [(0, .ref r0), (1, .int i1), (2, .int (nI 0)), (3, .int v27)] (v2.toList ++ [.ref r0]) n2 F2 (ev_mq X Q))
    (nn52_3 : (¬ 0 < (nI 0)) → ¬ (if 10 < i1 then i1 else 10) < 0)
    (nN52_4 : (¬ 0 < (nI 0)) → (if 10 < i1 then i1 else 10).toNatClampNeg = N52)
    (nB52_5 : (¬ 0 < (nI 0)) → N52 * 4 ≤ 536870912)
    (q59_6 : (¬ 0 < (nI 0)) → Q (some (.ref n)) (n + 1) (ev_up (ev_up F n (.inl (5, N52, .inr (.inr (.inr (.inr (fun _ => none))))))) r0 (.inr (12, [.ref n, .int ir0_size, .int ir0_modCount])))) :
    Ev l X M_AL_grow2 bc bs 0 [(0, .ref r0), (1, .int i1)] [] n F (ev_mq X Q) := by
  refine ev_aload_n (pc := 0) d_AL_grow2_0 rfl ?_
  refine ev_getfield (pc := 1) 0 d_AL_grow2_1 fl_AL_9 h_r0 rfl ?_
  refine ev_talen (pc := 4) d_AL_grow2_4 evT_empty ?_
  refine ev_istore_n (pc := 5) d_AL_grow2_5 (Nat.le_of_ble_eq_true rfl) [1, 2, 0] rfl ?_
  refine ev_iload_n (pc := 6) d_AL_grow2_6 rfl ?_
  refine ev_if_gt (pc := 7) 20 d_AL_grow2_7 (by decide) (fun c7 => ?_) (fun c7 => ?_)
  · refine ev_iload_n (pc := 20) d_AL_grow2_20 rfl ?_
    refine ev_iload_n (pc := 21) d_AL_grow2_21 rfl ?_
    refine ev_iload_n (pc := 22) d_AL_grow2_22 rfl ?_
    refine ev_isub (pc := 23) d_AL_grow2_23 ?_
    refine ev_iload_n (pc := 24) d_AL_grow2_24 rfl ?_
    refine ev_iconst (pc := 25) 1 d_AL_grow2_25 (by decide) ?_
    refine ev_ishr (pc := 26) d_AL_grow2_26 ?_
    refine ev_invokestatic (pc := 27) (As := [.int (nI 0), .int (i1 - (nI 0)), .int ((nI 0) >>> (1 &&& 31))]) (st := []) (Q2 := ev_pure (.int v27) n F) (bc1 := 0) (bs1 := 0) M_ASup_newLength d_AL_grow2_27 lc_AL_73 wd_511 rfl rfl (Nat.le_of_ble_eq_true rfl) (Nat.le_of_ble_eq_true rfl) (Nat.le_of_ble_eq_true rfl) (Nat.le_refl _) (Nat.le_refl _) (c27_0 c7) ?_
    refine ev_purek ?_
    refine ev_istore_n (pc := 30) d_AL_grow2_30 (Nat.le_of_ble_eq_true rfl) [1, 2, 3, 0] rfl ?_
    refine ev_aload_n (pc := 31) d_AL_grow2_31 rfl ?_
    refine ev_aload_n (pc := 32) d_AL_grow2_32 rfl ?_
    refine ev_getfield (pc := 33) 0 d_AL_grow2_33 fl_AL_9 h_r0 rfl ?_
    refine ev_iload_n (pc := 36) d_AL_grow2_36 rfl ?_
    exact ev_invokestatic (pc := 37) (As := [.ref (X.2.2.2.1 1), .int v27]) (st := [.ref r0]) (Q2 := Q37) M_Arr_copyOf2 d_AL_grow2_37 lc_AL_66 wd_519 rfl rfl (Nat.le_of_ble_eq_true rfl) (Nat.le_of_ble_eq_true rfl) (Nat.le_of_ble_eq_true rfl) hb_rc37 hs_rs37 (c37_1 c7) (k40_2 c7)
  · refine ev_aload_n (pc := 10) d_AL_grow2_10 rfl ?_
    refine ev_getfield (pc := 11) 0 d_AL_grow2_11 fl_AL_9 h_r0 rfl ?_
    refine ev_getstatic (pc := 14) d_AL_grow2_14 (fun _ h => h.2.2.1.1) (Or.inl wd_71) ?_
    refine ev_acmp_eq (pc := 17) (a := some (X.2.2.2.1 1)) (b := some (X.2.2.2.1 1)) 45 d_AL_grow2_17 (by decide) (fun _ => ?_) (fun c17 => absurd rfl c17)
    refine ev_aload_n (pc := 45) d_AL_grow2_45 rfl ?_
    refine ev_bipush (pc := 46) 10 d_AL_grow2_46 (by decide) ?_
    refine ev_iload_n (pc := 48) d_AL_grow2_48 rfl ?_
    refine ev_mmax (pc := 49) d_AL_grow2_49 wd_544 wd_275 wd_15 wd_276 (Nat.le_of_ble_eq_true rfl) (Nat.le_of_ble_eq_true rfl) ?_
    refine ev_fresh fun fr52 => ?_
    refine ev_anew (pc := 52) N52 d_AL_grow2_52 wd_545 (nn52_3 c7) (nN52_4 c7) (nB52_5 c7) (bc2 := rc52) (bs2 := rs52) hb_rc52 hs_rs52 (fun F1_ hF1_ => ?_)
    have g2_ : F1_ r0 = some (.inr (12, [.ref (X.2.2.2.1 1), .int ir0_size, .int ir0_modCount])) := by rw [← hF1_]; exact ev_up_k (ev_nf h_r0 (fr52 _ (Nat.le_refl _))) h_r0
    have g3_ : F1_ n = some (.inl (5, N52, .inr (.inr (.inr (.inr (fun _ => none)))))) := by rw [← hF1_]; exact ev_up_s
    refine ev_dup_x1 (pc := 55) d_AL_grow2_55 rfl rfl ?_
    refine ev_putfield (pc := 56) 0 _ d_AL_grow2_56 fl_AL_9 g2_ pf_12_elementData rfl rfl (Nat.le_of_ble_eq_true rfl) (fun F4_ hF4_ => ?_)
    have g5_ : F4_ n = some (.inl (5, N52, .inr (.inr (.inr (.inr (fun _ => none)))))) := by rw [← hF4_]; exact ev_up_k (ev_ne_ao g3_ g2_) g3_
    have g6_ : F4_ r0 = some (.inr (12, [.ref n, .int ir0_size, .int ir0_modCount])) := by rw [← hF4_]; exact ev_up_s
    exact ev_areturn (pc := 59) d_AL_grow2_59 rfl (Or.inr ⟨_, rfl⟩) (Or.inr ⟨_, rfl⟩) (by subst hF1_ hF4_; exact (q59_6 c7))

set_option maxRecDepth 100000 in
set_option maxHeartbeats 4000000 in
theorem s_AL_grow2E_40 {l : Launch} {X : ev_X} {bc bs n : Nat} {F : ev_H} {Q : Option Value → Nat → ev_H → Prop} {r0 : Nat} {i1 : Int32} {i2 : Int32} {i3 : Int32} {rs0 : Nat} {rs1 : Nat} {irs0_size : Int32} {irs0_modCount : Int32} (h_rs0 : F rs0 = some (.inr (12, [.ref (X.2.2.2.1 1), .int irs0_size, .int irs0_modCount])))
    (q44_0 : Q (some (.ref rs1)) n (ev_up F rs0 (.inr (12, [.ref rs1, .int irs0_size, .int irs0_modCount])))) :
    Ev l X M_AL_grow2 bc bs 40 [(0, .ref r0), (1, .int i1), (2, .int i2), (3, .int i3)] [.ref rs1, .ref rs0] n F (ev_mq X Q) := by
  refine ev_dup_x1 (pc := 40) d_AL_grow2_40 rfl rfl ?_
  refine ev_putfield (pc := 41) 0 _ d_AL_grow2_41 fl_AL_9 h_rs0 pf_12_elementData rfl rfl (Nat.le_of_ble_eq_true rfl) (fun F1_ hF1_ => ?_)
  have g2_ : F1_ rs0 = some (.inr (12, [.ref rs1, .int irs0_size, .int irs0_modCount])) := by rw [← hF1_]; exact ev_up_s
  exact ev_areturn (pc := 44) d_AL_grow2_44 rfl (Or.inr ⟨_, rfl⟩) (Or.inr ⟨_, rfl⟩) (by subst hF1_; exact q44_0)
set_option maxRecDepth 100000 in
set_option maxHeartbeats 4000000 in
theorem s_AL_grow_0 {l : Launch} {X : ev_X} {bc bs n : Nat} {F : ev_H} {Q : Option Value → Nat → ev_H → Prop} {r0 : Nat} {r0_elementData : Nat} {ir0_size : Int32} {ir0_modCount : Int32} {Q7 : Option Value → Nat → ev_H → Prop} {bc7 : Nat} {bs7 : Nat} {rc7 : Nat} {rs7 : Nat} (h_r0 : F r0 = some (.inr (12, [.ref r0_elementData, .int ir0_size, .int ir0_modCount]))) (hb_rc7 : rc7 + bc7 ≤ bc) (hs_rs7 : rs7 + bs7 ≤ bs)
    (c7_0 : Cal l X M_AL_grow2 bc7 bs7 [.ref r0, .int (ir0_size + 1)] n F Q7)
    (k10_1 : ∀ v2 n2 F2, Q7 v2 n2 F2 → Ev l X M_AL_grow rc7 rs7 10 [(0, .ref r0)] (v2.toList ++ []) n2 F2 (ev_mq X Q)) :
    Ev l X M_AL_grow bc bs 0 [(0, .ref r0)] [] n F (ev_mq X Q) := by
  refine ev_aload_n (pc := 0) d_AL_grow_0 rfl ?_
  refine ev_aload_n (pc := 1) d_AL_grow_1 rfl ?_
  refine ev_getfield (pc := 2) 1 d_AL_grow_2 fl_AL_48 h_r0 rfl ?_
  refine ev_iconst (pc := 5) 1 d_AL_grow_5 (by decide) ?_
  refine ev_iadd (pc := 6) d_AL_grow_6 ?_
  exact ev_invokevirtual (pc := 7) (As := [.int (ir0_size + 1)]) (st := []) (Q2 := Q7) M_AL_grow2 rC12 d_AL_grow_7 lc_AL_69 wd_508 wd_s16 rfl h_r0 rfl rfl (Nat.le_of_ble_eq_true rfl) (Nat.le_of_ble_eq_true rfl) (Nat.le_of_ble_eq_true rfl) hb_rc7 hs_rs7 c7_0 k10_1

set_option maxRecDepth 100000 in
set_option maxHeartbeats 4000000 in
theorem s_AL_grow_10 {l : Launch} {X : ev_X} {bc bs n : Nat} {F : ev_H} {Q : Option Value → Nat → ev_H → Prop} {r0 : Nat} {rs0 : Nat} 
    (q10_0 : Q (some (.ref rs0)) n F) :
    Ev l X M_AL_grow bc bs 10 [(0, .ref r0)] [.ref rs0] n F (ev_mq X Q) := by
  exact ev_areturn (pc := 10) d_AL_grow_10 rfl (Or.inr ⟨_, rfl⟩) (Or.inr ⟨_, rfl⟩) q10_0
set_option maxRecDepth 100000 in
set_option maxHeartbeats 4000000 in
theorem s_AL_add2_0 {l : Launch} {X : ev_X} {bc bs n : Nat} {F : ev_H} {Q : Option Value → Nat → ev_H → Prop} {r0 : Nat} {r1 : Nat} {r2 : Nat} {i3 : Int32} {r2_n : Nat} {r2_f : Nat → Option Nat} {r0_elementData : Nat} {ir0_size : Int32} {ir0_modCount : Int32} {Q7 : Option Value → Nat → ev_H → Prop} {bc7 : Nat} {bs7 : Nat} {rc7 : Nat} {rs7 : Nat} (h_r2 : F r2 = some (.inl (5, r2_n, .inr (.inr (.inr (.inr r2_f)))))) (h_r0 : F r0 = some (.inr (12, [.ref r0_elementData, .int ir0_size, .int ir0_modCount]))) (hb_rc7 : rc7 + bc7 ≤ bc) (hs_rs7 : rs7 + bs7 ≤ bs)
    (k11_0 : (¬ i3 = (nI r2_n)) → Ev l X M_AL_add2 bc bs 11 [(0, .ref r0), (1, .ref r1), (2, .ref r2), (3, .int i3)] [] n F (ev_mq X Q))
    (c7_1 : (i3 = (nI r2_n)) → Cal l X M_AL_grow bc7 bs7 [.ref r0] n F Q7)
    (k10_2 : (i3 = (nI r2_n)) → ∀ v2 n2 F2, Q7 v2 n2 F2 → Ev l X M_AL_add2 rc7 rs7 10 [(0, .ref r0), (1, .ref r1), (2, .ref r2), (3, .int i3)] (v2.toList ++ []) n2 F2 (ev_mq X Q)) :
    Ev l X M_AL_add2 bc bs 0 [(0, .ref r0), (1, .ref r1), (2, .ref r2), (3, .int i3)] [] n F (ev_mq X Q) := by
  refine ev_iload_n (pc := 0) d_AL_add2_0 rfl ?_
  refine ev_aload_n (pc := 1) d_AL_add2_1 rfl ?_
  refine ev_alen (pc := 2) d_AL_add2_2 h_r2 rfl ?_
  refine ev_icmp_ne (pc := 3) 11 d_AL_add2_3 (by decide) (fun c3 => ?_) (fun c3 => ?_)
  · exact (k11_0 c3)
  · refine ev_aload_n (pc := 6) d_AL_add2_6 rfl ?_
    exact ev_invokevirtual (pc := 7) (As := []) (st := []) (Q2 := Q7) M_AL_grow rC12 d_AL_add2_7 lc_AL_129 wd_504 wd_s15 rfl h_r0 rfl rfl (Nat.le_of_ble_eq_true rfl) (Nat.le_of_ble_eq_true rfl) (Nat.le_of_ble_eq_true rfl) hb_rc7 hs_rs7 (c7_1 c3) (k10_2 c3)

set_option maxRecDepth 100000 in
set_option maxHeartbeats 4000000 in
theorem s_AL_add2_11 {l : Launch} {X : ev_X} {bc bs n : Nat} {F : ev_H} {Q : Option Value → Nat → ev_H → Prop} {r0 : Nat} {r1 : Nat} {r2 : Nat} {i3 : Int32} {r2_n : Nat} {r2_f : Nat → Option Nat} {r0_elementData : Nat} {ir0_size : Int32} {ir0_modCount : Int32} (h_r2 : F r2 = some (.inl (5, r2_n, .inr (.inr (.inr (.inr r2_f)))))) (h_r0 : F r0 = some (.inr (12, [.ref r0_elementData, .int ir0_size, .int ir0_modCount])))
    (in14_0 : vp_in i3 r2_n)
    (is14_1 : isO F r1)
    (q22_2 : Q none n (ev_up (ev_up F r2 (.inl (5, r2_n, .inr (.inr (.inr (.inr (va_up r2_f i3.toNatClampNeg (some r1)))))))) r0 (.inr (12, [.ref r0_elementData, .int (i3 + 1), .int ir0_modCount])))) :
    Ev l X M_AL_add2 bc bs 11 [(0, .ref r0), (1, .ref r1), (2, .ref r2), (3, .int i3)] [] n F (ev_mq X Q) := by
  refine ev_aload_n (pc := 11) d_AL_add2_11 rfl ?_
  refine ev_iload_n (pc := 12) d_AL_add2_12 rfl ?_
  refine ev_aload_n (pc := 13) d_AL_add2_13 rfl ?_
  refine ev_aastore (pc := 14) d_AL_add2_14 h_r2 is14_1 in14_0 (fun F1_ hF1_ => ?_)
  have g2_ : F1_ r2 = some (.inl (5, r2_n, .inr (.inr (.inr (.inr (va_up r2_f i3.toNatClampNeg (some r1))))))) := by rw [← hF1_]; exact ev_up_s
  refine ev_aload_n (pc := 15) d_AL_add2_15 rfl ?_
  refine ev_iload_n (pc := 16) d_AL_add2_16 rfl ?_
  refine ev_iconst (pc := 17) 1 d_AL_add2_17 (by decide) ?_
  refine ev_iadd (pc := 18) d_AL_add2_18 ?_
  have g3_ : F1_ r0 = some (.inr (12, [.ref r0_elementData, .int ir0_size, .int ir0_modCount])) := by rw [← hF1_]; exact ev_up_k (ev_ne_oa h_r0 h_r2) h_r0
  refine ev_putfield (pc := 19) 1 _ d_AL_add2_19 fl_AL_48 g3_ pf_12_size rfl rfl (Nat.le_of_ble_eq_true rfl) (fun F4_ hF4_ => ?_)
  have g5_ : F4_ r2 = some (.inl (5, r2_n, .inr (.inr (.inr (.inr (va_up r2_f i3.toNatClampNeg (some r1))))))) := by rw [← hF4_]; exact ev_up_k (ev_ne_ao g2_ g3_) g2_
  have g6_ : F4_ r0 = some (.inr (12, [.ref r0_elementData, .int (i3 + 1), .int ir0_modCount])) := by rw [← hF4_]; exact ev_up_s
  exact ev_return (pc := 22) d_AL_add2_22 rfl (by subst hF1_ hF4_; exact q22_2)

set_option maxRecDepth 100000 in
set_option maxHeartbeats 4000000 in
theorem s_AL_add2_10 {l : Launch} {X : ev_X} {bc bs n : Nat} {F : ev_H} {Q : Option Value → Nat → ev_H → Prop} {r0 : Nat} {r1 : Nat} {r2 : Nat} {i3 : Int32} {rs0 : Nat} 
    (k11_0 : Ev l X M_AL_add2 bc bs 11 [(0, .ref r0), (1, .ref r1), (2, .ref rs0), (3, .int i3)] [] n F (ev_mq X Q)) :
    Ev l X M_AL_add2 bc bs 10 [(0, .ref r0), (1, .ref r1), (2, .ref r2), (3, .int i3)] [.ref rs0] n F (ev_mq X Q) := by
  refine ev_astore_n (pc := 10) d_AL_add2_10 (Nat.le_of_ble_eq_true rfl) [1, 2, 0, 3] rfl ?_
  exact k11_0
set_option maxRecDepth 100000 in
set_option maxHeartbeats 4000000 in
theorem s_AL_add2E_0 {l : Launch} {X : ev_X} {bc bs n : Nat} {F : ev_H} {Q : Option Value → Nat → ev_H → Prop} {r0 : Nat} {r1 : Nat} {i3 : Int32} {r0_elementData : Nat} {ir0_size : Int32} {ir0_modCount : Int32} {Q7 : Option Value → Nat → ev_H → Prop} {bc7 : Nat} {bs7 : Nat} {rc7 : Nat} {rs7 : Nat} (h_r0 : F r0 = some (.inr (12, [.ref r0_elementData, .int ir0_size, .int ir0_modCount]))) (hb_rc7 : rc7 + bc7 ≤ bc) (hs_rs7 : rs7 + bs7 ≤ bs)
    (k11_0 : (¬ i3 = (nI 0)) → Ev l X M_AL_add2 bc bs 11 [(0, .ref r0), (1, .ref r1), (2, .ref (X.2.2.2.1 1)), (3, .int i3)] [] n F (ev_mq X Q))
    (c7_1 : (i3 = (nI 0)) → Cal l X M_AL_grow bc7 bs7 [.ref r0] n F Q7)
    (k10_2 : (i3 = (nI 0)) → ∀ v2 n2 F2, Q7 v2 n2 F2 → Ev l X M_AL_add2 rc7 rs7 10 [(0, .ref r0), (1, .ref r1), (2, .ref (X.2.2.2.1 1)), (3, .int i3)] (v2.toList ++ []) n2 F2 (ev_mq X Q)) :
    Ev l X M_AL_add2 bc bs 0 [(0, .ref r0), (1, .ref r1), (2, .ref (X.2.2.2.1 1)), (3, .int i3)] [] n F (ev_mq X Q) := by
  refine ev_iload_n (pc := 0) d_AL_add2_0 rfl ?_
  refine ev_aload_n (pc := 1) d_AL_add2_1 rfl ?_
  refine ev_talen (pc := 2) d_AL_add2_2 evT_empty ?_
  refine ev_icmp_ne (pc := 3) 11 d_AL_add2_3 (by decide) (fun c3 => ?_) (fun c3 => ?_)
  · exact (k11_0 c3)
  · refine ev_aload_n (pc := 6) d_AL_add2_6 rfl ?_
    exact ev_invokevirtual (pc := 7) (As := []) (st := []) (Q2 := Q7) M_AL_grow rC12 d_AL_add2_7 lc_AL_129 wd_504 wd_s15 rfl h_r0 rfl rfl (Nat.le_of_ble_eq_true rfl) (Nat.le_of_ble_eq_true rfl) (Nat.le_of_ble_eq_true rfl) hb_rc7 hs_rs7 (c7_1 c3) (k10_2 c3)

set_option maxRecDepth 100000 in
set_option maxHeartbeats 4000000 in
theorem s_AL_add2E_11 {l : Launch} {X : ev_X} {bc bs n : Nat} {F : ev_H} {Q : Option Value → Nat → ev_H → Prop} {r0 : Nat} {r1 : Nat} {i3 : Int32} 
    (no14_0 : False) :
    Ev l X M_AL_add2 bc bs 11 [(0, .ref r0), (1, .ref r1), (2, .ref (X.2.2.2.1 1)), (3, .int i3)] [] n F (ev_mq X Q) := by
  refine ev_aload_n (pc := 11) d_AL_add2_11 rfl ?_
  refine ev_iload_n (pc := 12) d_AL_add2_12 rfl ?_
  refine ev_aload_n (pc := 13) d_AL_add2_13 rfl ?_
  exact no14_0.elim

set_option maxRecDepth 100000 in
set_option maxHeartbeats 4000000 in
theorem s_AL_add2E_10 {l : Launch} {X : ev_X} {bc bs n : Nat} {F : ev_H} {Q : Option Value → Nat → ev_H → Prop} {r0 : Nat} {r1 : Nat} {i3 : Int32} {rs0 : Nat} 
    (k11_0 : Ev l X M_AL_add2 bc bs 11 [(0, .ref r0), (1, .ref r1), (2, .ref rs0), (3, .int i3)] [] n F (ev_mq X Q)) :
    Ev l X M_AL_add2 bc bs 10 [(0, .ref r0), (1, .ref r1), (2, .ref (X.2.2.2.1 1)), (3, .int i3)] [.ref rs0] n F (ev_mq X Q) := by
  refine ev_astore_n (pc := 10) d_AL_add2_10 (Nat.le_of_ble_eq_true rfl) [1, 2, 0, 3] rfl ?_
  exact k11_0
set_option maxRecDepth 100000 in
set_option maxHeartbeats 4000000 in
theorem s_AL_add_0 {l : Launch} {X : ev_X} {bc bs n : Nat} {F : ev_H} {Q : Option Value → Nat → ev_H → Prop} {r0 : Nat} {r1 : Nat} {r0_elementData : Nat} {ir0_size : Int32} {ir0_modCount : Int32} {Q20 : Option Value → Nat → ev_H → Prop} {bc20 : Nat} {bs20 : Nat} {rc20 : Nat} {rs20 : Nat} (h_r0 : F r0 = some (.inr (12, [.ref r0_elementData, .int ir0_size, .int ir0_modCount]))) (hb_rc20 : rc20 + bc20 ≤ bc) (hs_rs20 : rs20 + bs20 ≤ bs)
    (c20_0 : Cal l X M_AL_add2 bc20 bs20 [.ref r0, .ref r1, .ref r0_elementData, .int ir0_size] n (ev_up F r0 (.inr (12, [.ref r0_elementData, .int ir0_size, .int (ir0_modCount + 1)]))) Q20)
    (k23_1 : ∀ v2 n2 F2, Q20 v2 n2 F2 → Ev l X M_AL_add rc20 rs20 23 [(0, .ref r0), (1, .ref r1)] (v2.toList ++ []) n2 F2 (ev_mq X Q)) :
    Ev l X M_AL_add bc bs 0 [(0, .ref r0), (1, .ref r1)] [] n F (ev_mq X Q) := by
  refine ev_aload_n (pc := 0) d_AL_add_0 rfl ?_
  refine ev_dup (pc := 1) d_AL_add_1 rfl ?_
  refine ev_getfield (pc := 2) 2 d_AL_add_2 fl_AL_63 h_r0 rfl ?_
  refine ev_iconst (pc := 5) 1 d_AL_add_5 (by decide) ?_
  refine ev_iadd (pc := 6) d_AL_add_6 ?_
  refine ev_putfield (pc := 7) 2 _ d_AL_add_7 fl_AL_63 h_r0 pf_12_modCount rfl rfl (Nat.le_of_ble_eq_true rfl) (fun F1_ hF1_ => ?_)
  have g2_ : F1_ r0 = some (.inr (12, [.ref r0_elementData, .int ir0_size, .int (ir0_modCount + 1)])) := by rw [← hF1_]; exact ev_up_s
  refine ev_aload_n (pc := 10) d_AL_add_10 rfl ?_
  refine ev_aload_n (pc := 11) d_AL_add_11 rfl ?_
  refine ev_aload_n (pc := 12) d_AL_add_12 rfl ?_
  refine ev_getfield (pc := 13) 0 d_AL_add_13 fl_AL_9 g2_ rfl ?_
  refine ev_aload_n (pc := 16) d_AL_add_16 rfl ?_
  refine ev_getfield (pc := 17) 1 d_AL_add_17 fl_AL_48 g2_ rfl ?_
  exact ev_invokevirtual (pc := 20) (As := [.ref r1, .ref r0_elementData, .int ir0_size]) (st := []) (Q2 := Q20) M_AL_add2 rC12 d_AL_add_20 lc_AL_131 wd_500 wd_s14 rfl g2_ rfl rfl (Nat.le_of_ble_eq_true rfl) (Nat.le_of_ble_eq_true rfl) (Nat.le_of_ble_eq_true rfl) hb_rc20 hs_rs20 (by subst hF1_; exact c20_0) k23_1

set_option maxRecDepth 100000 in
set_option maxHeartbeats 4000000 in
theorem s_AL_add_23 {l : Launch} {X : ev_X} {bc bs n : Nat} {F : ev_H} {Q : Option Value → Nat → ev_H → Prop} {r0 : Nat} {r1 : Nat} 
    (q24_0 : Q (some (.int 1)) n F) :
    Ev l X M_AL_add bc bs 23 [(0, .ref r0), (1, .ref r1)] [] n F (ev_mq X Q) := by
  refine ev_iconst (pc := 23) 1 d_AL_add_23 (by decide) ?_
  exact ev_ireturn (pc := 24) d_AL_add_24 rfl rfl q24_0
set_option maxRecDepth 100000 in
set_option maxHeartbeats 4000000 in
theorem s_AL_rangeCheckForAdd_0 {l : Launch} {X : ev_X} {bc bs n : Nat} {F : ev_H} {Q : Option Value → Nat → ev_H → Prop} {r0 : Nat} {i1 : Int32} {r0_elementData : Nat} {ir0_size : Int32} {ir0_modCount : Int32} (h_r0 : F r0 = some (.inr (12, [.ref r0_elementData, .int ir0_size, .int ir0_modCount])))
    (no12_0 : (ir0_size < i1) → False)
    (q25_1 : (¬ ir0_size < i1) → (0 ≤ i1) → Q none n F)
    (no12_2 : (¬ ir0_size < i1) → (¬ 0 ≤ i1) → False) :
    Ev l X M_AL_rangeCheckForAdd bc bs 0 [(0, .ref r0), (1, .int i1)] [] n F (ev_mq X Q) := by
  refine ev_iload_n (pc := 0) d_AL_rangeCheckForAdd_0 rfl ?_
  refine ev_aload_n (pc := 1) d_AL_rangeCheckForAdd_1 rfl ?_
  refine ev_getfield (pc := 2) 1 d_AL_rangeCheckForAdd_2 fl_AL_48 h_r0 rfl ?_
  refine ev_icmp_gt (pc := 5) 12 d_AL_rangeCheckForAdd_5 (by decide) (fun c5 => ?_) (fun c5 => ?_)
  · exact (no12_0 c5).elim
  · refine ev_iload_n (pc := 8) d_AL_rangeCheckForAdd_8 rfl ?_
    refine ev_if_ge (pc := 9) 25 d_AL_rangeCheckForAdd_9 (by decide) (fun c9 => ?_) (fun c9 => ?_)
    · exact ev_return (pc := 25) d_AL_rangeCheckForAdd_25 rfl (q25_1 c5 c9)
    · exact (no12_2 c5 c9).elim
set_option maxRecDepth 100000 in
set_option maxHeartbeats 4000000 in
theorem s_AL_add3_0 {l : Launch} {X : ev_X} {bc bs n : Nat} {F : ev_H} {Q : Option Value → Nat → ev_H → Prop} {r0 : Nat} {i1 : Int32} {r2 : Nat} {r0_elementData : Nat} {ir0_size : Int32} {ir0_modCount : Int32} {r0_elementData_n : Nat} {r0_elementData_f : Nat → Option Nat} {Q33 : Option Value → Nat → ev_H → Prop} {bc33 : Nat} {bs33 : Nat} {rc33 : Nat} {rs33 : Nat} (h_r0 : F r0 = some (.inr (12, [.ref r0_elementData, .int ir0_size, .int ir0_modCount]))) (h_r0_elementData : F r0_elementData = some (.inl (5, r0_elementData_n, .inr (.inr (.inr (.inr r0_elementData_f)))))) (hb_rc33 : rc33 + bc33 ≤ bc) (hs_rs33 : rs33 + bs33 ≤ bs)
    (c2_0 : Cal l X M_AL_rangeCheckForAdd 0 0 [.ref r0, .int i1] n F (ev_void n F))
    (k38_1 : (¬ ir0_size = (nI r0_elementData_n)) → Ev l X M_AL_add3 bc bs 38 [(0, .ref r0), (1, .int i1), (2, .ref r2), (3, .int ir0_size), (4, .ref r0_elementData)] [] n (ev_up F r0 (.inr (12, [.ref r0_elementData, .int ir0_size, .int (ir0_modCount + 1)]))) (ev_mq X Q))
    (c33_2 : (ir0_size = (nI r0_elementData_n)) → Cal l X M_AL_grow bc33 bs33 [.ref r0] n (ev_up F r0 (.inr (12, [.ref r0_elementData, .int ir0_size, .int (ir0_modCount + 1)]))) Q33)
    (k36_3 : (ir0_size = (nI r0_elementData_n)) → ∀ v2 n2 F2, Q33 v2 n2 F2 → Ev l X M_AL_add3 rc33 rs33 36 [(0, .ref r0), (1, .int i1), (2, .ref r2), (3, .int ir0_size), (4, .ref r0_elementData)] (v2.toList ++ []) n2 F2 (ev_mq X Q)) :
    Ev l X M_AL_add3 bc bs 0 [(0, .ref r0), (1, .int i1), (2, .ref r2)] [] n F (ev_mq X Q) := by
  refine ev_aload_n (pc := 0) d_AL_add3_0 rfl ?_
  refine ev_iload_n (pc := 1) d_AL_add3_1 rfl ?_
  refine ev_invokevirtual (pc := 2) (As := [.int i1]) (st := []) (Q2 := ev_void n F) (bc1 := 0) (bs1 := 0) M_AL_rangeCheckForAdd rC12 d_AL_add3_2 lc_AL_135 wd_634 wd_s21 rfl h_r0 rfl rfl (Nat.le_of_ble_eq_true rfl) (Nat.le_of_ble_eq_true rfl) (Nat.le_of_ble_eq_true rfl) (Nat.le_refl _) (Nat.le_refl _) c2_0 ?_
  refine ev_voidk ?_
  refine ev_aload_n (pc := 5) d_AL_add3_5 rfl ?_
  refine ev_dup (pc := 6) d_AL_add3_6 rfl ?_
  refine ev_getfield (pc := 7) 2 d_AL_add3_7 fl_AL_63 h_r0 rfl ?_
  refine ev_iconst (pc := 10) 1 d_AL_add3_10 (by decide) ?_
  refine ev_iadd (pc := 11) d_AL_add3_11 ?_
  refine ev_putfield (pc := 12) 2 _ d_AL_add3_12 fl_AL_63 h_r0 pf_12_modCount rfl rfl (Nat.le_of_ble_eq_true rfl) (fun F1_ hF1_ => ?_)
  have g2_ : F1_ r0 = some (.inr (12, [.ref r0_elementData, .int ir0_size, .int (ir0_modCount + 1)])) := by rw [← hF1_]; exact ev_up_s
  refine ev_aload_n (pc := 15) d_AL_add3_15 rfl ?_
  refine ev_getfield (pc := 16) 1 d_AL_add3_16 fl_AL_48 g2_ rfl ?_
  refine ev_dup (pc := 19) d_AL_add3_19 rfl ?_
  refine ev_istore_n (pc := 20) d_AL_add3_20 (Nat.le_of_ble_eq_true rfl) [1, 2, 3, 0] rfl ?_
  refine ev_aload_n (pc := 21) d_AL_add3_21 rfl ?_
  refine ev_getfield (pc := 22) 0 d_AL_add3_22 fl_AL_9 g2_ rfl ?_
  refine ev_dup (pc := 25) d_AL_add3_25 rfl ?_
  refine ev_astore (pc := 26) d_AL_add3_26 (Nat.le_of_ble_eq_true rfl) [1, 2, 3, 4, 0] rfl ?_
  have g3_ : F1_ r0_elementData = some (.inl (5, r0_elementData_n, .inr (.inr (.inr (.inr r0_elementData_f))))) := by rw [← hF1_]; exact ev_up_k (ev_ne_ao h_r0_elementData h_r0) h_r0_elementData
  refine ev_alen (pc := 28) d_AL_add3_28 g3_ rfl ?_
  refine ev_icmp_ne (pc := 29) 38 d_AL_add3_29 (by decide) (fun c29 => ?_) (fun c29 => ?_)
  · exact (by subst hF1_; exact (k38_1 c29))
  · refine ev_aload_n (pc := 32) d_AL_add3_32 rfl ?_
    exact ev_invokevirtual (pc := 33) (As := []) (st := []) (Q2 := Q33) M_AL_grow rC12 d_AL_add3_33 lc_AL_129 wd_504 wd_s15 rfl g2_ rfl rfl (Nat.le_of_ble_eq_true rfl) (Nat.le_of_ble_eq_true rfl) (Nat.le_of_ble_eq_true rfl) hb_rc33 hs_rs33 (by subst hF1_; exact (c33_2 c29)) (k36_3 c29)

set_option maxRecDepth 100000 in
set_option maxHeartbeats 4000000 in
theorem s_AL_add3_38 {l : Launch} {X : ev_X} {bc bs n : Nat} {F : ev_H} {Q : Option Value → Nat → ev_H → Prop} {r0 : Nat} {i1 : Int32} {r2 : Nat} {i3 : Int32} {r4 : Nat} {r4_n : Nat} {r4_f : Nat → Option Nat} {r0_elementData : Nat} {ir0_size : Int32} {ir0_modCount : Int32} (h_r4 : F r4 = some (.inl (5, r4_n, .inr (.inr (.inr (.inr r4_f)))))) (h_r0 : F r0 = some (.inr (12, [.ref r0_elementData, .int ir0_size, .int ir0_modCount])))
    (cp49_0 : (¬ i1 < 0 ∧ ¬ (i1 + 1) < 0 ∧ ¬ (i3 - i1) < 0) ∧ i1.toNatClampNeg + (i3 - i1).toNatClampNeg ≤ r4_n ∧ (i1 + 1).toNatClampNeg + (i3 - i1).toNatClampNeg ≤ r4_n)
    (el49_1 : ∀ i : Nat, i < (i3 - i1).toNatClampNeg → ∀ y : Nat, r4_f (i1.toNatClampNeg + i) = some y → isO F y)
    (in56_2 : vp_in i1 r4_n)
    (is56_3 : isO (ev_up F r4 (.inl (5, r4_n, .inr (.inr (.inr (.inr (va_cpy r4_f r4_f i1.toNatClampNeg (i1 + 1).toNatClampNeg (i3 - i1).toNatClampNeg))))))) r2)
    (q64_4 : Q none n (ev_up (ev_up (ev_up F r4 (.inl (5, r4_n, .inr (.inr (.inr (.inr (va_cpy r4_f r4_f i1.toNatClampNeg (i1 + 1).toNatClampNeg (i3 - i1).toNatClampNeg))))))) r4 (.inl (5, r4_n, .inr (.inr (.inr (.inr (va_up (va_cpy r4_f r4_f i1.toNatClampNeg (i1 + 1).toNatClampNeg (i3 - i1).toNatClampNeg) i1.toNatClampNeg (some r2)))))))) r0 (.inr (12, [.ref r0_elementData, .int (i3 + 1), .int ir0_modCount])))) :
    Ev l X M_AL_add3 bc bs 38 [(0, .ref r0), (1, .int i1), (2, .ref r2), (3, .int i3), (4, .ref r4)] [] n F (ev_mq X Q) := by
  refine ev_aload (pc := 38) d_AL_add3_38 rfl ?_
  refine ev_iload_n (pc := 40) d_AL_add3_40 rfl ?_
  refine ev_aload (pc := 41) d_AL_add3_41 rfl ?_
  refine ev_iload_n (pc := 43) d_AL_add3_43 rfl ?_
  refine ev_iconst (pc := 44) 1 d_AL_add3_44 (by decide) ?_
  refine ev_iadd (pc := 45) d_AL_add3_45 ?_
  refine ev_iload_n (pc := 46) d_AL_add3_46 rfl ?_
  refine ev_iload_n (pc := 47) d_AL_add3_47 rfl ?_
  refine ev_isub (pc := 48) d_AL_add3_48 ?_
  refine ev_copyq (pc := 49) d_AL_add3_49 wd_493 h_r4 h_r4 cp49_0 el49_1 (Nat.le_of_ble_eq_true rfl) (Nat.le_of_ble_eq_true rfl) (fun F1_ hF1_ => ?_)
  have g2_ : F1_ r4 = some (.inl (5, r4_n, .inr (.inr (.inr (.inr (va_cpy r4_f r4_f i1.toNatClampNeg (i1 + 1).toNatClampNeg (i3 - i1).toNatClampNeg)))))) := by rw [← hF1_]; exact ev_up_s
  refine ev_aload (pc := 52) d_AL_add3_52 rfl ?_
  refine ev_iload_n (pc := 54) d_AL_add3_54 rfl ?_
  refine ev_aload_n (pc := 55) d_AL_add3_55 rfl ?_
  refine ev_aastore (pc := 56) d_AL_add3_56 g2_ (by subst hF1_; exact is56_3) in56_2 (fun F3_ hF3_ => ?_)
  have g4_ : F3_ r4 = some (.inl (5, r4_n, .inr (.inr (.inr (.inr (va_up (va_cpy r4_f r4_f i1.toNatClampNeg (i1 + 1).toNatClampNeg (i3 - i1).toNatClampNeg) i1.toNatClampNeg (some r2))))))) := by rw [← hF3_]; exact ev_up_s
  refine ev_aload_n (pc := 57) d_AL_add3_57 rfl ?_
  refine ev_iload_n (pc := 58) d_AL_add3_58 rfl ?_
  refine ev_iconst (pc := 59) 1 d_AL_add3_59 (by decide) ?_
  refine ev_iadd (pc := 60) d_AL_add3_60 ?_
  have g5_ : F1_ r0 = some (.inr (12, [.ref r0_elementData, .int ir0_size, .int ir0_modCount])) := by rw [← hF1_]; exact ev_up_k (ev_ne_oa h_r0 h_r4) h_r0
  have g6_ : F3_ r0 = some (.inr (12, [.ref r0_elementData, .int ir0_size, .int ir0_modCount])) := by rw [← hF3_]; exact ev_up_k (ev_ne_oa g5_ g2_) g5_
  refine ev_putfield (pc := 61) 1 _ d_AL_add3_61 fl_AL_48 g6_ pf_12_size rfl rfl (Nat.le_of_ble_eq_true rfl) (fun F7_ hF7_ => ?_)
  have g8_ : F7_ r4 = some (.inl (5, r4_n, .inr (.inr (.inr (.inr (va_up (va_cpy r4_f r4_f i1.toNatClampNeg (i1 + 1).toNatClampNeg (i3 - i1).toNatClampNeg) i1.toNatClampNeg (some r2))))))) := by rw [← hF7_]; exact ev_up_k (ev_ne_ao g4_ g6_) g4_
  have g9_ : F7_ r0 = some (.inr (12, [.ref r0_elementData, .int (i3 + 1), .int ir0_modCount])) := by rw [← hF7_]; exact ev_up_s
  exact ev_return (pc := 64) d_AL_add3_64 rfl (by subst hF1_ hF3_ hF7_; exact q64_4)

set_option maxRecDepth 100000 in
set_option maxHeartbeats 4000000 in
theorem s_AL_add3_36 {l : Launch} {X : ev_X} {bc bs n : Nat} {F : ev_H} {Q : Option Value → Nat → ev_H → Prop} {r0 : Nat} {i1 : Int32} {r2 : Nat} {i3 : Int32} {r4 : Nat} {rs0 : Nat} 
    (k38_0 : Ev l X M_AL_add3 bc bs 38 [(0, .ref r0), (1, .int i1), (2, .ref r2), (3, .int i3), (4, .ref rs0)] [] n F (ev_mq X Q)) :
    Ev l X M_AL_add3 bc bs 36 [(0, .ref r0), (1, .int i1), (2, .ref r2), (3, .int i3), (4, .ref r4)] [.ref rs0] n F (ev_mq X Q) := by
  refine ev_astore (pc := 36) d_AL_add3_36 (Nat.le_of_ble_eq_true rfl) [1, 2, 3, 4, 0] rfl ?_
  exact k38_0
set_option maxRecDepth 100000 in
set_option maxHeartbeats 4000000 in
theorem s_AL_add3E_0 {l : Launch} {X : ev_X} {bc bs n : Nat} {F : ev_H} {Q : Option Value → Nat → ev_H → Prop} {r0 : Nat} {i1 : Int32} {r2 : Nat} {ir0_size : Int32} {ir0_modCount : Int32} {Q33 : Option Value → Nat → ev_H → Prop} {bc33 : Nat} {bs33 : Nat} {rc33 : Nat} {rs33 : Nat} (h_r0 : F r0 = some (.inr (12, [.ref (X.2.2.2.1 1), .int ir0_size, .int ir0_modCount]))) (hb_rc33 : rc33 + bc33 ≤ bc) (hs_rs33 : rs33 + bs33 ≤ bs)
    (c2_0 : Cal l X M_AL_rangeCheckForAdd 0 0 [.ref r0, .int i1] n F (ev_void n F))
    (k38_1 : (¬ ir0_size = (nI 0)) → Ev l X M_AL_add3 bc bs 38 [(0, .ref r0), (1, .int i1), (2, .ref r2), (3, .int ir0_size), (4, .ref (X.2.2.2.1 1))] [] n (ev_up F r0 (.inr (12, [.ref (X.2.2.2.1 1), .int ir0_size, .int (ir0_modCount + 1)]))) (ev_mq X Q))
    (c33_2 : (ir0_size = (nI 0)) → Cal l X M_AL_grow bc33 bs33 [.ref r0] n (ev_up F r0 (.inr (12, [.ref (X.2.2.2.1 1), .int ir0_size, .int (ir0_modCount + 1)]))) Q33)
    (k36_3 : (ir0_size = (nI 0)) → ∀ v2 n2 F2, Q33 v2 n2 F2 → Ev l X M_AL_add3 rc33 rs33 36 [(0, .ref r0), (1, .int i1), (2, .ref r2), (3, .int ir0_size), (4, .ref (X.2.2.2.1 1))] (v2.toList ++ []) n2 F2 (ev_mq X Q)) :
    Ev l X M_AL_add3 bc bs 0 [(0, .ref r0), (1, .int i1), (2, .ref r2)] [] n F (ev_mq X Q) := by
  refine ev_aload_n (pc := 0) d_AL_add3_0 rfl ?_
  refine ev_iload_n (pc := 1) d_AL_add3_1 rfl ?_
  refine ev_invokevirtual (pc := 2) (As := [.int i1]) (st := []) (Q2 := ev_void n F) (bc1 := 0) (bs1 := 0) M_AL_rangeCheckForAdd rC12 d_AL_add3_2 lc_AL_135 wd_634 wd_s21 rfl h_r0 rfl rfl (Nat.le_of_ble_eq_true rfl) (Nat.le_of_ble_eq_true rfl) (Nat.le_of_ble_eq_true rfl) (Nat.le_refl _) (Nat.le_refl _) c2_0 ?_
  refine ev_voidk ?_
  refine ev_aload_n (pc := 5) d_AL_add3_5 rfl ?_
  refine ev_dup (pc := 6) d_AL_add3_6 rfl ?_
  refine ev_getfield (pc := 7) 2 d_AL_add3_7 fl_AL_63 h_r0 rfl ?_
  refine ev_iconst (pc := 10) 1 d_AL_add3_10 (by decide) ?_
  refine ev_iadd (pc := 11) d_AL_add3_11 ?_
  refine ev_putfield (pc := 12) 2 _ d_AL_add3_12 fl_AL_63 h_r0 pf_12_modCount rfl rfl (Nat.le_of_ble_eq_true rfl) (fun F1_ hF1_ => ?_)
  have g2_ : F1_ r0 = some (.inr (12, [.ref (X.2.2.2.1 1), .int ir0_size, .int (ir0_modCount + 1)])) := by rw [← hF1_]; exact ev_up_s
  refine ev_aload_n (pc := 15) d_AL_add3_15 rfl ?_
  refine ev_getfield (pc := 16) 1 d_AL_add3_16 fl_AL_48 g2_ rfl ?_
  refine ev_dup (pc := 19) d_AL_add3_19 rfl ?_
  refine ev_istore_n (pc := 20) d_AL_add3_20 (Nat.le_of_ble_eq_true rfl) [1, 2, 3, 0] rfl ?_
  refine ev_aload_n (pc := 21) d_AL_add3_21 rfl ?_
  refine ev_getfield (pc := 22) 0 d_AL_add3_22 fl_AL_9 g2_ rfl ?_
  refine ev_dup (pc := 25) d_AL_add3_25 rfl ?_
  refine ev_astore (pc := 26) d_AL_add3_26 (Nat.le_of_ble_eq_true rfl) [1, 2, 3, 4, 0] rfl ?_
  refine ev_talen (pc := 28) d_AL_add3_28 evT_empty ?_
  refine ev_icmp_ne (pc := 29) 38 d_AL_add3_29 (by decide) (fun c29 => ?_) (fun c29 => ?_)
  · exact (by subst hF1_; exact (k38_1 c29))
  · refine ev_aload_n (pc := 32) d_AL_add3_32 rfl ?_
    exact ev_invokevirtual (pc := 33) (As := []) (st := []) (Q2 := Q33) M_AL_grow rC12 d_AL_add3_33 lc_AL_129 wd_504 wd_s15 rfl g2_ rfl rfl (Nat.le_of_ble_eq_true rfl) (Nat.le_of_ble_eq_true rfl) (Nat.le_of_ble_eq_true rfl) hb_rc33 hs_rs33 (by subst hF1_; exact (c33_2 c29)) (k36_3 c29)

set_option maxRecDepth 100000 in
set_option maxHeartbeats 4000000 in
theorem s_AL_add3E_38 {l : Launch} {X : ev_X} {bc bs n : Nat} {F : ev_H} {Q : Option Value → Nat → ev_H → Prop} {r0 : Nat} {i1 : Int32} {r2 : Nat} {i3 : Int32} {r4 : Nat} {r4_n : Nat} {r4_f : Nat → Option Nat} {ir0_size : Int32} {ir0_modCount : Int32} (h_r4 : F r4 = some (.inl (5, r4_n, .inr (.inr (.inr (.inr r4_f)))))) (h_r0 : F r0 = some (.inr (12, [.ref (X.2.2.2.1 1), .int ir0_size, .int ir0_modCount])))
    (cp49_0 : (¬ i1 < 0 ∧ ¬ (i1 + 1) < 0 ∧ ¬ (i3 - i1) < 0) ∧ i1.toNatClampNeg + (i3 - i1).toNatClampNeg ≤ r4_n ∧ (i1 + 1).toNatClampNeg + (i3 - i1).toNatClampNeg ≤ r4_n)
    (el49_1 : ∀ i : Nat, i < (i3 - i1).toNatClampNeg → ∀ y : Nat, r4_f (i1.toNatClampNeg + i) = some y → isO F y)
    (in56_2 : vp_in i1 r4_n)
    (is56_3 : isO (ev_up F r4 (.inl (5, r4_n, .inr (.inr (.inr (.inr (va_cpy r4_f r4_f i1.toNatClampNeg (i1 + 1).toNatClampNeg (i3 - i1).toNatClampNeg))))))) r2)
    (q64_4 : Q none n (ev_up (ev_up (ev_up F r4 (.inl (5, r4_n, .inr (.inr (.inr (.inr (va_cpy r4_f r4_f i1.toNatClampNeg (i1 + 1).toNatClampNeg (i3 - i1).toNatClampNeg))))))) r4 (.inl (5, r4_n, .inr (.inr (.inr (.inr (va_up (va_cpy r4_f r4_f i1.toNatClampNeg (i1 + 1).toNatClampNeg (i3 - i1).toNatClampNeg) i1.toNatClampNeg (some r2)))))))) r0 (.inr (12, [.ref (X.2.2.2.1 1), .int (i3 + 1), .int ir0_modCount])))) :
    Ev l X M_AL_add3 bc bs 38 [(0, .ref r0), (1, .int i1), (2, .ref r2), (3, .int i3), (4, .ref r4)] [] n F (ev_mq X Q) := by
  refine ev_aload (pc := 38) d_AL_add3_38 rfl ?_
  refine ev_iload_n (pc := 40) d_AL_add3_40 rfl ?_
  refine ev_aload (pc := 41) d_AL_add3_41 rfl ?_
  refine ev_iload_n (pc := 43) d_AL_add3_43 rfl ?_
  refine ev_iconst (pc := 44) 1 d_AL_add3_44 (by decide) ?_
  refine ev_iadd (pc := 45) d_AL_add3_45 ?_
  refine ev_iload_n (pc := 46) d_AL_add3_46 rfl ?_
  refine ev_iload_n (pc := 47) d_AL_add3_47 rfl ?_
  refine ev_isub (pc := 48) d_AL_add3_48 ?_
  refine ev_copyq (pc := 49) d_AL_add3_49 wd_493 h_r4 h_r4 cp49_0 el49_1 (Nat.le_of_ble_eq_true rfl) (Nat.le_of_ble_eq_true rfl) (fun F1_ hF1_ => ?_)
  have g2_ : F1_ r4 = some (.inl (5, r4_n, .inr (.inr (.inr (.inr (va_cpy r4_f r4_f i1.toNatClampNeg (i1 + 1).toNatClampNeg (i3 - i1).toNatClampNeg)))))) := by rw [← hF1_]; exact ev_up_s
  refine ev_aload (pc := 52) d_AL_add3_52 rfl ?_
  refine ev_iload_n (pc := 54) d_AL_add3_54 rfl ?_
  refine ev_aload_n (pc := 55) d_AL_add3_55 rfl ?_
  refine ev_aastore (pc := 56) d_AL_add3_56 g2_ (by subst hF1_; exact is56_3) in56_2 (fun F3_ hF3_ => ?_)
  have g4_ : F3_ r4 = some (.inl (5, r4_n, .inr (.inr (.inr (.inr (va_up (va_cpy r4_f r4_f i1.toNatClampNeg (i1 + 1).toNatClampNeg (i3 - i1).toNatClampNeg) i1.toNatClampNeg (some r2))))))) := by rw [← hF3_]; exact ev_up_s
  refine ev_aload_n (pc := 57) d_AL_add3_57 rfl ?_
  refine ev_iload_n (pc := 58) d_AL_add3_58 rfl ?_
  refine ev_iconst (pc := 59) 1 d_AL_add3_59 (by decide) ?_
  refine ev_iadd (pc := 60) d_AL_add3_60 ?_
  have g5_ : F1_ r0 = some (.inr (12, [.ref (X.2.2.2.1 1), .int ir0_size, .int ir0_modCount])) := by rw [← hF1_]; exact ev_up_k (ev_ne_oa h_r0 h_r4) h_r0
  have g6_ : F3_ r0 = some (.inr (12, [.ref (X.2.2.2.1 1), .int ir0_size, .int ir0_modCount])) := by rw [← hF3_]; exact ev_up_k (ev_ne_oa g5_ g2_) g5_
  refine ev_putfield (pc := 61) 1 _ d_AL_add3_61 fl_AL_48 g6_ pf_12_size rfl rfl (Nat.le_of_ble_eq_true rfl) (fun F7_ hF7_ => ?_)
  have g8_ : F7_ r4 = some (.inl (5, r4_n, .inr (.inr (.inr (.inr (va_up (va_cpy r4_f r4_f i1.toNatClampNeg (i1 + 1).toNatClampNeg (i3 - i1).toNatClampNeg) i1.toNatClampNeg (some r2))))))) := by rw [← hF7_]; exact ev_up_k (ev_ne_ao g4_ g6_) g4_
  have g9_ : F7_ r0 = some (.inr (12, [.ref (X.2.2.2.1 1), .int (i3 + 1), .int ir0_modCount])) := by rw [← hF7_]; exact ev_up_s
  exact ev_return (pc := 64) d_AL_add3_64 rfl (by subst hF1_ hF3_ hF7_; exact q64_4)

set_option maxRecDepth 100000 in
set_option maxHeartbeats 4000000 in
theorem s_AL_add3E_36 {l : Launch} {X : ev_X} {bc bs n : Nat} {F : ev_H} {Q : Option Value → Nat → ev_H → Prop} {r0 : Nat} {i1 : Int32} {r2 : Nat} {i3 : Int32} {r4 : Nat} {rs0 : Nat} 
    (k38_0 : Ev l X M_AL_add3 bc bs 38 [(0, .ref r0), (1, .int i1), (2, .ref r2), (3, .int i3), (4, .ref rs0)] [] n F (ev_mq X Q)) :
    Ev l X M_AL_add3 bc bs 36 [(0, .ref r0), (1, .int i1), (2, .ref r2), (3, .int i3), (4, .ref r4)] [.ref rs0] n F (ev_mq X Q) := by
  refine ev_astore (pc := 36) d_AL_add3_36 (Nat.le_of_ble_eq_true rfl) [1, 2, 3, 4, 0] rfl ?_
  exact k38_0
set_option maxRecDepth 100000 in
set_option maxHeartbeats 4000000 in
theorem s_AL_fastRemove_0 {l : Launch} {X : ev_X} {bc bs n : Nat} {F : ev_H} {Q : Option Value → Nat → ev_H → Prop} {r0 : Nat} {r1 : Nat} {i2 : Int32} {r0_elementData : Nat} {ir0_size : Int32} {ir0_modCount : Int32} {r1_n : Nat} {r1_f : Nat → Option Nat} (h_r0 : F r0 = some (.inr (12, [.ref r0_elementData, .int ir0_size, .int ir0_modCount]))) (h_r1 : F r1 = some (.inl (5, r1_n, .inr (.inr (.inr (.inr r1_f))))))
    (in42_0 : ((ir0_size - 1) ≤ i2) → vp_in (ir0_size - 1) r1_n)
    (q43_1 : ((ir0_size - 1) ≤ i2) → Q none n (ev_up (ev_up (ev_up F r0 (.inr (12, [.ref r0_elementData, .int ir0_size, .int (ir0_modCount + 1)]))) r0 (.inr (12, [.ref r0_elementData, .int (ir0_size - 1), .int (ir0_modCount + 1)]))) r1 (.inl (5, r1_n, .inr (.inr (.inr (.inr (va_up r1_f (ir0_size - 1).toNatClampNeg none))))))))
    (cp31_2 : (¬ (ir0_size - 1) ≤ i2) → (¬ (i2 + 1) < 0 ∧ ¬ i2 < 0 ∧ ¬ ((ir0_size - 1) - i2) < 0) ∧ (i2 + 1).toNatClampNeg + ((ir0_size - 1) - i2).toNatClampNeg ≤ r1_n ∧ i2.toNatClampNeg + ((ir0_size - 1) - i2).toNatClampNeg ≤ r1_n)
    (el31_3 : (¬ (ir0_size - 1) ≤ i2) → ∀ i : Nat, i < ((ir0_size - 1) - i2).toNatClampNeg → ∀ y : Nat, r1_f ((i2 + 1).toNatClampNeg + i) = some y → isO (ev_up F r0 (.inr (12, [.ref r0_elementData, .int ir0_size, .int (ir0_modCount + 1)]))) y)
    (in42_4 : (¬ (ir0_size - 1) ≤ i2) → vp_in (ir0_size - 1) r1_n)
    (q43_5 : (¬ (ir0_size - 1) ≤ i2) → Q none n (ev_up (ev_up (ev_up (ev_up F r0 (.inr (12, [.ref r0_elementData, .int ir0_size, .int (ir0_modCount + 1)]))) r1 (.inl (5, r1_n, .inr (.inr (.inr (.inr (va_cpy r1_f r1_f (i2 + 1).toNatClampNeg i2.toNatClampNeg ((ir0_size - 1) - i2).toNatClampNeg))))))) r0 (.inr (12, [.ref r0_elementData, .int (ir0_size - 1), .int (ir0_modCount + 1)]))) r1 (.inl (5, r1_n, .inr (.inr (.inr (.inr (va_up (va_cpy r1_f r1_f (i2 + 1).toNatClampNeg i2.toNatClampNeg ((ir0_size - 1) - i2).toNatClampNeg) (ir0_size - 1).toNatClampNeg none)))))))) :
    Ev l X M_AL_fastRemove bc bs 0 [(0, .ref r0), (1, .ref r1), (2, .int i2)] [] n F (ev_mq X Q) := by
  refine ev_aload_n (pc := 0) d_AL_fastRemove_0 rfl ?_
  refine ev_dup (pc := 1) d_AL_fastRemove_1 rfl ?_
  refine ev_getfield (pc := 2) 2 d_AL_fastRemove_2 fl_AL_63 h_r0 rfl ?_
  refine ev_iconst (pc := 5) 1 d_AL_fastRemove_5 (by decide) ?_
  refine ev_iadd (pc := 6) d_AL_fastRemove_6 ?_
  refine ev_putfield (pc := 7) 2 _ d_AL_fastRemove_7 fl_AL_63 h_r0 pf_12_modCount rfl rfl (Nat.le_of_ble_eq_true rfl) (fun F1_ hF1_ => ?_)
  have g2_ : F1_ r0 = some (.inr (12, [.ref r0_elementData, .int ir0_size, .int (ir0_modCount + 1)])) := by rw [← hF1_]; exact ev_up_s
  refine ev_aload_n (pc := 10) d_AL_fastRemove_10 rfl ?_
  refine ev_getfield (pc := 11) 1 d_AL_fastRemove_11 fl_AL_48 g2_ rfl ?_
  refine ev_iconst (pc := 14) 1 d_AL_fastRemove_14 (by decide) ?_
  refine ev_isub (pc := 15) d_AL_fastRemove_15 ?_
  refine ev_dup (pc := 16) d_AL_fastRemove_16 rfl ?_
  refine ev_istore_n (pc := 17) d_AL_fastRemove_17 (Nat.le_of_ble_eq_true rfl) [1, 2, 3, 0] rfl ?_
  refine ev_iload_n (pc := 18) d_AL_fastRemove_18 rfl ?_
  refine ev_icmp_le (pc := 19) 34 d_AL_fastRemove_19 (by decide) (fun c19 => ?_) (fun c19 => ?_)
  · refine ev_aload_n (pc := 34) d_AL_fastRemove_34 rfl ?_
    refine ev_aload_n (pc := 35) d_AL_fastRemove_35 rfl ?_
    refine ev_iload_n (pc := 36) d_AL_fastRemove_36 rfl ?_
    refine ev_dup_x1 (pc := 37) d_AL_fastRemove_37 rfl rfl ?_
    refine ev_putfield (pc := 38) 1 _ d_AL_fastRemove_38 fl_AL_48 g2_ pf_12_size rfl rfl (Nat.le_of_ble_eq_true rfl) (fun F3_ hF3_ => ?_)
    have g4_ : F3_ r0 = some (.inr (12, [.ref r0_elementData, .int (ir0_size - 1), .int (ir0_modCount + 1)])) := by rw [← hF3_]; exact ev_up_s
    refine ev_null (pc := 41) d_AL_fastRemove_41 ?_
    have g5_ : F1_ r1 = some (.inl (5, r1_n, .inr (.inr (.inr (.inr r1_f))))) := by rw [← hF1_]; exact ev_up_k (ev_ne_ao h_r1 h_r0) h_r1
    have g6_ : F3_ r1 = some (.inl (5, r1_n, .inr (.inr (.inr (.inr r1_f))))) := by rw [← hF3_]; exact ev_up_k (ev_ne_ao g5_ g2_) g5_
    refine ev_aastoreN (pc := 42) d_AL_fastRemove_42 g6_ (in42_0 c19) (fun F7_ hF7_ => ?_)
    have g8_ : F7_ r0 = some (.inr (12, [.ref r0_elementData, .int (ir0_size - 1), .int (ir0_modCount + 1)])) := by rw [← hF7_]; exact ev_up_k (ev_ne_oa g4_ g6_) g4_
    have g9_ : F7_ r1 = some (.inl (5, r1_n, .inr (.inr (.inr (.inr (va_up r1_f (ir0_size - 1).toNatClampNeg none)))))) := by rw [← hF7_]; exact ev_up_s
    exact ev_return (pc := 43) d_AL_fastRemove_43 rfl (by subst hF1_ hF3_ hF7_; exact (q43_1 c19))
  · refine ev_aload_n (pc := 22) d_AL_fastRemove_22 rfl ?_
    refine ev_iload_n (pc := 23) d_AL_fastRemove_23 rfl ?_
    refine ev_iconst (pc := 24) 1 d_AL_fastRemove_24 (by decide) ?_
    refine ev_iadd (pc := 25) d_AL_fastRemove_25 ?_
    refine ev_aload_n (pc := 26) d_AL_fastRemove_26 rfl ?_
    refine ev_iload_n (pc := 27) d_AL_fastRemove_27 rfl ?_
    refine ev_iload_n (pc := 28) d_AL_fastRemove_28 rfl ?_
    refine ev_iload_n (pc := 29) d_AL_fastRemove_29 rfl ?_
    refine ev_isub (pc := 30) d_AL_fastRemove_30 ?_
    have g10_ : F1_ r1 = some (.inl (5, r1_n, .inr (.inr (.inr (.inr r1_f))))) := by rw [← hF1_]; exact ev_up_k (ev_ne_ao h_r1 h_r0) h_r1
    refine ev_copyq (pc := 31) d_AL_fastRemove_31 wd_493 g10_ g10_ (cp31_2 c19) (by subst hF1_; exact (el31_3 c19)) (Nat.le_of_ble_eq_true rfl) (Nat.le_of_ble_eq_true rfl) (fun F11_ hF11_ => ?_)
    have g12_ : F11_ r0 = some (.inr (12, [.ref r0_elementData, .int ir0_size, .int (ir0_modCount + 1)])) := by rw [← hF11_]; exact ev_up_k (ev_ne_oa g2_ g10_) g2_
    have g13_ : F11_ r1 = some (.inl (5, r1_n, .inr (.inr (.inr (.inr (va_cpy r1_f r1_f (i2 + 1).toNatClampNeg i2.toNatClampNeg ((ir0_size - 1) - i2).toNatClampNeg)))))) := by rw [← hF11_]; exact ev_up_s
    refine ev_aload_n (pc := 34) d_AL_fastRemove_34 rfl ?_
    refine ev_aload_n (pc := 35) d_AL_fastRemove_35 rfl ?_
    refine ev_iload_n (pc := 36) d_AL_fastRemove_36 rfl ?_
    refine ev_dup_x1 (pc := 37) d_AL_fastRemove_37 rfl rfl ?_
    refine ev_putfield (pc := 38) 1 _ d_AL_fastRemove_38 fl_AL_48 g12_ pf_12_size rfl rfl (Nat.le_of_ble_eq_true rfl) (fun F14_ hF14_ => ?_)
    have g15_ : F14_ r1 = some (.inl (5, r1_n, .inr (.inr (.inr (.inr (va_cpy r1_f r1_f (i2 + 1).toNatClampNeg i2.toNatClampNeg ((ir0_size - 1) - i2).toNatClampNeg)))))) := by rw [← hF14_]; exact ev_up_k (ev_ne_ao g13_ g12_) g13_
    have g16_ : F14_ r0 = some (.inr (12, [.ref r0_elementData, .int (ir0_size - 1), .int (ir0_modCount + 1)])) := by rw [← hF14_]; exact ev_up_s
    refine ev_null (pc := 41) d_AL_fastRemove_41 ?_
    refine ev_aastoreN (pc := 42) d_AL_fastRemove_42 g15_ (in42_4 c19) (fun F17_ hF17_ => ?_)
    have g18_ : F17_ r0 = some (.inr (12, [.ref r0_elementData, .int (ir0_size - 1), .int (ir0_modCount + 1)])) := by rw [← hF17_]; exact ev_up_k (ev_ne_oa g16_ g15_) g16_
    have g19_ : F17_ r1 = some (.inl (5, r1_n, .inr (.inr (.inr (.inr (va_up (va_cpy r1_f r1_f (i2 + 1).toNatClampNeg i2.toNatClampNeg ((ir0_size - 1) - i2).toNatClampNeg) (ir0_size - 1).toNatClampNeg none)))))) := by rw [← hF17_]; exact ev_up_s
    exact ev_return (pc := 43) d_AL_fastRemove_43 rfl (by subst hF1_ hF11_ hF14_ hF17_; exact (q43_5 c19))
set_option maxRecDepth 100000 in
set_option maxHeartbeats 4000000 in
theorem s_AL_remove_0 {l : Launch} {X : ev_X} {bc bs n : Nat} {F : ev_H} {Q : Option Value → Nat → ev_H → Prop} {r0 : Nat} {i1 : Int32} {r0_elementData : Nat} {ir0_size : Int32} {ir0_modCount : Int32} {v5 : Int32} {r0_elementData_n : Nat} {r0_elementData_f : Nat → Option Nat} {x16 : Nat} {Q21 : Option Value → Nat → ev_H → Prop} {bc21 : Nat} {bs21 : Nat} {rc21 : Nat} {rs21 : Nat} (h_r0 : F r0 = some (.inr (12, [.ref r0_elementData, .int ir0_size, .int ir0_modCount]))) (h_r0_elementData : F r0_elementData = some (.inl (5, r0_elementData_n, .inr (.inr (.inr (.inr r0_elementData_f)))))) (hb_rc21 : rc21 + bc21 ≤ bc) (hs_rs21 : rs21 + bs21 ≤ bs)
    (c5_0 : Cal l X M_Obs_checkIndex 0 0 [.int i1, .int ir0_size] n F (ev_pure (.int v5) n F))
    (in16_1 : vp_in i1 r0_elementData_n)
    (e16_2 : r0_elementData_f i1.toNatClampNeg = some x16)
    (c21_3 : Cal l X M_AL_fastRemove bc21 bs21 [.ref r0, .ref r0_elementData, .int i1] n F Q21)
    (k24_4 : ∀ v2 n2 F2, Q21 v2 n2 F2 → Ev l X M_AL_remove rc21 rs21 24 [(0, .ref r0), (1, .int i1), (2, .ref r0_elementData), (3, .ref x16)] (v2.toList ++ []) n2 F2 (ev_mq X Q)) :
    Ev l X M_AL_remove bc bs 0 [(0, .ref r0), (1, .int i1)] [] n F (ev_mq X Q) := by
  refine ev_iload_n (pc := 0) d_AL_remove_0 rfl ?_
  refine ev_aload_n (pc := 1) d_AL_remove_1 rfl ?_
  refine ev_getfield (pc := 2) 1 d_AL_remove_2 fl_AL_48 h_r0 rfl ?_
  refine ev_invokestatic (pc := 5) (As := [.int i1, .int ir0_size]) (st := []) (Q2 := ev_pure (.int v5) n F) (bc1 := 0) (bs1 := 0) M_Obs_checkIndex d_AL_remove_5 lc_AL_118 wd_477 rfl rfl (Nat.le_of_ble_eq_true rfl) (Nat.le_of_ble_eq_true rfl) (Nat.le_of_ble_eq_true rfl) (Nat.le_refl _) (Nat.le_refl _) c5_0 ?_
  refine ev_purek ?_
  refine ev_pop (pc := 8) d_AL_remove_8 rfl ?_
  refine ev_aload_n (pc := 9) d_AL_remove_9 rfl ?_
  refine ev_getfield (pc := 10) 0 d_AL_remove_10 fl_AL_9 h_r0 rfl ?_
  refine ev_astore_n (pc := 13) d_AL_remove_13 (Nat.le_of_ble_eq_true rfl) [1, 2, 0] rfl ?_
  refine ev_aload_n (pc := 14) d_AL_remove_14 rfl ?_
  refine ev_iload_n (pc := 15) d_AL_remove_15 rfl ?_
  refine ev_aaload (pc := 16) d_AL_remove_16 h_r0_elementData rfl rfl in16_1 ?_
  refine ev_rf e16_2 ?_
  refine ev_astore_n (pc := 17) d_AL_remove_17 (Nat.le_of_ble_eq_true rfl) [1, 2, 3, 0] rfl ?_
  refine ev_aload_n (pc := 18) d_AL_remove_18 rfl ?_
  refine ev_aload_n (pc := 19) d_AL_remove_19 rfl ?_
  refine ev_iload_n (pc := 20) d_AL_remove_20 rfl ?_
  exact ev_invokevirtual (pc := 21) (As := [.ref r0_elementData, .int i1]) (st := []) (Q2 := Q21) M_AL_fastRemove rC12 d_AL_remove_21 lc_AL_144 wd_491 wd_s13 rfl h_r0 rfl rfl (Nat.le_of_ble_eq_true rfl) (Nat.le_of_ble_eq_true rfl) (Nat.le_of_ble_eq_true rfl) hb_rc21 hs_rs21 c21_3 k24_4

set_option maxRecDepth 100000 in
set_option maxHeartbeats 4000000 in
theorem s_AL_remove_24 {l : Launch} {X : ev_X} {bc bs n : Nat} {F : ev_H} {Q : Option Value → Nat → ev_H → Prop} {r0 : Nat} {i1 : Int32} {r2 : Nat} {r3 : Nat} 
    (q25_0 : Q (some (.ref r3)) n F) :
    Ev l X M_AL_remove bc bs 24 [(0, .ref r0), (1, .int i1), (2, .ref r2), (3, .ref r3)] [] n F (ev_mq X Q) := by
  refine ev_aload_n (pc := 24) d_AL_remove_24 rfl ?_
  exact ev_areturn (pc := 25) d_AL_remove_25 rfl (Or.inl ⟨_, rfl⟩) (Or.inr ⟨_, rfl⟩) q25_0
set_option maxRecDepth 100000 in
set_option maxHeartbeats 4000000 in
theorem s_AL_clear_0 {l : Launch} {X : ev_X} {bc bs n : Nat} {F : ev_H} {Q : Option Value → Nat → ev_H → Prop} {r0 : Nat} {r0_elementData : Nat} {ir0_size : Int32} {ir0_modCount : Int32} (h_r0 : F r0 = some (.inr (12, [.ref r0_elementData, .int ir0_size, .int ir0_modCount])))
    (k27_0 : Ev l X M_AL_clear bc bs 27 [(0, .ref r0), (1, .ref r0_elementData), (2, .int ir0_size), (3, .int 0)] [] n (ev_up (ev_up F r0 (.inr (12, [.ref r0_elementData, .int ir0_size, .int (ir0_modCount + 1)]))) r0 (.inr (12, [.ref r0_elementData, .int 0, .int (ir0_modCount + 1)]))) (ev_mq X Q)) :
    Ev l X M_AL_clear bc bs 0 [(0, .ref r0)] [] n F (ev_mq X Q) := by
  refine ev_aload_n (pc := 0) d_AL_clear_0 rfl ?_
  refine ev_dup (pc := 1) d_AL_clear_1 rfl ?_
  refine ev_getfield (pc := 2) 2 d_AL_clear_2 fl_AL_63 h_r0 rfl ?_
  refine ev_iconst (pc := 5) 1 d_AL_clear_5 (by decide) ?_
  refine ev_iadd (pc := 6) d_AL_clear_6 ?_
  refine ev_putfield (pc := 7) 2 _ d_AL_clear_7 fl_AL_63 h_r0 pf_12_modCount rfl rfl (Nat.le_of_ble_eq_true rfl) (fun F1_ hF1_ => ?_)
  have g2_ : F1_ r0 = some (.inr (12, [.ref r0_elementData, .int ir0_size, .int (ir0_modCount + 1)])) := by rw [← hF1_]; exact ev_up_s
  refine ev_aload_n (pc := 10) d_AL_clear_10 rfl ?_
  refine ev_getfield (pc := 11) 0 d_AL_clear_11 fl_AL_9 g2_ rfl ?_
  refine ev_astore_n (pc := 14) d_AL_clear_14 (Nat.le_of_ble_eq_true rfl) [1, 0] rfl ?_
  refine ev_aload_n (pc := 15) d_AL_clear_15 rfl ?_
  refine ev_getfield (pc := 16) 1 d_AL_clear_16 fl_AL_48 g2_ rfl ?_
  refine ev_istore_n (pc := 19) d_AL_clear_19 (Nat.le_of_ble_eq_true rfl) [1, 2, 0] rfl ?_
  refine ev_aload_n (pc := 20) d_AL_clear_20 rfl ?_
  refine ev_iconst (pc := 21) 0 d_AL_clear_21 (by decide) ?_
  refine ev_dup_x1 (pc := 22) d_AL_clear_22 rfl rfl ?_
  refine ev_putfield (pc := 23) 1 _ d_AL_clear_23 fl_AL_48 g2_ pf_12_size rfl rfl (Nat.le_of_ble_eq_true rfl) (fun F3_ hF3_ => ?_)
  have g4_ : F3_ r0 = some (.inr (12, [.ref r0_elementData, .int 0, .int (ir0_modCount + 1)])) := by rw [← hF3_]; exact ev_up_s
  refine ev_istore_n (pc := 26) d_AL_clear_26 (Nat.le_of_ble_eq_true rfl) [1, 2, 3, 0] rfl ?_
  exact (by subst hF1_ hF3_; exact k27_0)

set_option maxRecDepth 100000 in
set_option maxHeartbeats 4000000 in
theorem s_AL_clear_27 {l : Launch} {X : ev_X} {bc bs n : Nat} {F : ev_H} {Q : Option Value → Nat → ev_H → Prop} {r0 : Nat} {r1 : Nat} {i2 : Int32} {i3 : Int32} {r1_n : Nat} {r1_f : Nat → Option Nat} (h_r1 : F r1 = some (.inl (5, r1_n, .inr (.inr (.inr (.inr r1_f))))))
    (q42_0 : (i2 ≤ i3) → Q none n F)
    (in35_1 : (¬ i2 ≤ i3) → vp_in i3 r1_n)
    (k27_2 : (¬ i2 ≤ i3) → Ev l X M_AL_clear bc bs 27 [(0, .ref r0), (1, .ref r1), (2, .int i2), (3, .int (i3 + 1))] [] n (ev_up F r1 (.inl (5, r1_n, .inr (.inr (.inr (.inr (va_up r1_f i3.toNatClampNeg none))))))) (ev_mq X Q)) :
    Ev l X M_AL_clear bc bs 27 [(0, .ref r0), (1, .ref r1), (2, .int i2), (3, .int i3)] [] n F (ev_mq X Q) := by
  refine ev_iload_n (pc := 27) d_AL_clear_27 rfl ?_
  refine ev_iload_n (pc := 28) d_AL_clear_28 rfl ?_
  refine ev_icmp_ge (pc := 29) 42 d_AL_clear_29 (by decide) (fun c29 => ?_) (fun c29 => ?_)
  · exact ev_return (pc := 42) d_AL_clear_42 rfl (q42_0 c29)
  · refine ev_aload_n (pc := 32) d_AL_clear_32 rfl ?_
    refine ev_iload_n (pc := 33) d_AL_clear_33 rfl ?_
    refine ev_null (pc := 34) d_AL_clear_34 ?_
    refine ev_aastoreN (pc := 35) d_AL_clear_35 h_r1 (in35_1 c29) (fun F1_ hF1_ => ?_)
    have g2_ : F1_ r1 = some (.inl (5, r1_n, .inr (.inr (.inr (.inr (va_up r1_f i3.toNatClampNeg none)))))) := by rw [← hF1_]; exact ev_up_s
    refine ev_iinc (pc := 36) 3 1 d_AL_clear_36 rfl (by decide) (Nat.le_of_ble_eq_true rfl) [1, 2, 3, 0] rfl ?_
    refine ev_goto (pc := 39) 27 d_AL_clear_39 (by decide) ?_
    exact (by subst hF1_; exact (k27_2 c29))
set_option maxRecDepth 100000 in
set_option maxHeartbeats 4000000 in
theorem s_AL_clearE_0 {l : Launch} {X : ev_X} {bc bs n : Nat} {F : ev_H} {Q : Option Value → Nat → ev_H → Prop} {r0 : Nat} {ir0_size : Int32} {ir0_modCount : Int32} (h_r0 : F r0 = some (.inr (12, [.ref (X.2.2.2.1 1), .int ir0_size, .int ir0_modCount])))
    (k27_0 : Ev l X M_AL_clear bc bs 27 [(0, .ref r0), (1, .ref (X.2.2.2.1 1)), (2, .int ir0_size), (3, .int 0)] [] n (ev_up (ev_up F r0 (.inr (12, [.ref (X.2.2.2.1 1), .int ir0_size, .int (ir0_modCount + 1)]))) r0 (.inr (12, [.ref (X.2.2.2.1 1), .int 0, .int (ir0_modCount + 1)]))) (ev_mq X Q)) :
    Ev l X M_AL_clear bc bs 0 [(0, .ref r0)] [] n F (ev_mq X Q) := by
  refine ev_aload_n (pc := 0) d_AL_clear_0 rfl ?_
  refine ev_dup (pc := 1) d_AL_clear_1 rfl ?_
  refine ev_getfield (pc := 2) 2 d_AL_clear_2 fl_AL_63 h_r0 rfl ?_
  refine ev_iconst (pc := 5) 1 d_AL_clear_5 (by decide) ?_
  refine ev_iadd (pc := 6) d_AL_clear_6 ?_
  refine ev_putfield (pc := 7) 2 _ d_AL_clear_7 fl_AL_63 h_r0 pf_12_modCount rfl rfl (Nat.le_of_ble_eq_true rfl) (fun F1_ hF1_ => ?_)
  have g2_ : F1_ r0 = some (.inr (12, [.ref (X.2.2.2.1 1), .int ir0_size, .int (ir0_modCount + 1)])) := by rw [← hF1_]; exact ev_up_s
  refine ev_aload_n (pc := 10) d_AL_clear_10 rfl ?_
  refine ev_getfield (pc := 11) 0 d_AL_clear_11 fl_AL_9 g2_ rfl ?_
  refine ev_astore_n (pc := 14) d_AL_clear_14 (Nat.le_of_ble_eq_true rfl) [1, 0] rfl ?_
  refine ev_aload_n (pc := 15) d_AL_clear_15 rfl ?_
  refine ev_getfield (pc := 16) 1 d_AL_clear_16 fl_AL_48 g2_ rfl ?_
  refine ev_istore_n (pc := 19) d_AL_clear_19 (Nat.le_of_ble_eq_true rfl) [1, 2, 0] rfl ?_
  refine ev_aload_n (pc := 20) d_AL_clear_20 rfl ?_
  refine ev_iconst (pc := 21) 0 d_AL_clear_21 (by decide) ?_
  refine ev_dup_x1 (pc := 22) d_AL_clear_22 rfl rfl ?_
  refine ev_putfield (pc := 23) 1 _ d_AL_clear_23 fl_AL_48 g2_ pf_12_size rfl rfl (Nat.le_of_ble_eq_true rfl) (fun F3_ hF3_ => ?_)
  have g4_ : F3_ r0 = some (.inr (12, [.ref (X.2.2.2.1 1), .int 0, .int (ir0_modCount + 1)])) := by rw [← hF3_]; exact ev_up_s
  refine ev_istore_n (pc := 26) d_AL_clear_26 (Nat.le_of_ble_eq_true rfl) [1, 2, 3, 0] rfl ?_
  exact (by subst hF1_ hF3_; exact k27_0)

set_option maxRecDepth 100000 in
set_option maxHeartbeats 4000000 in
theorem s_AL_clearE_27 {l : Launch} {X : ev_X} {bc bs n : Nat} {F : ev_H} {Q : Option Value → Nat → ev_H → Prop} {r0 : Nat} {i2 : Int32} {i3 : Int32} 
    (q42_0 : (i2 ≤ i3) → Q none n F)
    (no35_1 : (¬ i2 ≤ i3) → False) :
    Ev l X M_AL_clear bc bs 27 [(0, .ref r0), (1, .ref (X.2.2.2.1 1)), (2, .int i2), (3, .int i3)] [] n F (ev_mq X Q) := by
  refine ev_iload_n (pc := 27) d_AL_clear_27 rfl ?_
  refine ev_iload_n (pc := 28) d_AL_clear_28 rfl ?_
  refine ev_icmp_ge (pc := 29) 42 d_AL_clear_29 (by decide) (fun c29 => ?_) (fun c29 => ?_)
  · exact ev_return (pc := 42) d_AL_clear_42 rfl (q42_0 c29)
  · refine ev_aload_n (pc := 32) d_AL_clear_32 rfl ?_
    refine ev_iload_n (pc := 33) d_AL_clear_33 rfl ?_
    refine ev_null (pc := 34) d_AL_clear_34 ?_
    exact (no35_1 c29).elim
set_option maxRecDepth 100000 in
set_option maxHeartbeats 4000000 in
theorem s_AL_set_0 {l : Launch} {X : ev_X} {bc bs n : Nat} {F : ev_H} {Q : Option Value → Nat → ev_H → Prop} {r0 : Nat} {i1 : Int32} {r2 : Nat} {r0_elementData : Nat} {ir0_size : Int32} {ir0_modCount : Int32} {v5 : Int32} {v11 : Nat} {r0_elementData_n : Nat} {r0_elementData_f : Nat → Option Nat} (h_r0 : F r0 = some (.inr (12, [.ref r0_elementData, .int ir0_size, .int ir0_modCount]))) (h_r0_elementData : F r0_elementData = some (.inl (5, r0_elementData_n, .inr (.inr (.inr (.inr r0_elementData_f))))))
    (c5_0 : Cal l X M_Obs_checkIndex 0 0 [.int i1, .int ir0_size] n F (ev_pure (.int v5) n F))
    (c11_1 : Cal l X M_AL_elementData 0 0 [.ref r0, .int i1] n F (ev_pure (.ref v11) n F))
    (in21_2 : vp_in i1 r0_elementData_n)
    (is21_3 : isO F r2)
    (q23_4 : Q (some (.ref v11)) n (ev_up F r0_elementData (.inl (5, r0_elementData_n, .inr (.inr (.inr (.inr (va_up r0_elementData_f i1.toNatClampNeg (some r2))))))))) :
    Ev l X M_AL_set bc bs 0 [(0, .ref r0), (1, .int i1), (2, .ref r2)] [] n F (ev_mq X Q) := by
  refine ev_iload_n (pc := 0) d_AL_set_0 rfl ?_
  refine ev_aload_n (pc := 1) d_AL_set_1 rfl ?_
  refine ev_getfield (pc := 2) 1 d_AL_set_2 fl_AL_48 h_r0 rfl ?_
  refine ev_invokestatic (pc := 5) (As := [.int i1, .int ir0_size]) (st := []) (Q2 := ev_pure (.int v5) n F) (bc1 := 0) (bs1 := 0) M_Obs_checkIndex d_AL_set_5 lc_AL_118 wd_477 rfl rfl (Nat.le_of_ble_eq_true rfl) (Nat.le_of_ble_eq_true rfl) (Nat.le_of_ble_eq_true rfl) (Nat.le_refl _) (Nat.le_refl _) c5_0 ?_
  refine ev_purek ?_
  refine ev_pop (pc := 8) d_AL_set_8 rfl ?_
  refine ev_aload_n (pc := 9) d_AL_set_9 rfl ?_
  refine ev_iload_n (pc := 10) d_AL_set_10 rfl ?_
  refine ev_invokevirtual (pc := 11) (As := [.int i1]) (st := []) (Q2 := ev_pure (.ref v11) n F) (bc1 := 0) (bs1 := 0) M_AL_elementData rC12 d_AL_set_11 lc_AL_123 wd_481 wd_482 rfl h_r0 rfl rfl (Nat.le_of_ble_eq_true rfl) (Nat.le_of_ble_eq_true rfl) (Nat.le_of_ble_eq_true rfl) (Nat.le_refl _) (Nat.le_refl _) c11_1 ?_
  refine ev_purek ?_
  refine ev_astore_n (pc := 14) d_AL_set_14 (Nat.le_of_ble_eq_true rfl) [1, 2, 3, 0] rfl ?_
  refine ev_aload_n (pc := 15) d_AL_set_15 rfl ?_
  refine ev_getfield (pc := 16) 0 d_AL_set_16 fl_AL_9 h_r0 rfl ?_
  refine ev_iload_n (pc := 19) d_AL_set_19 rfl ?_
  refine ev_aload_n (pc := 20) d_AL_set_20 rfl ?_
  refine ev_aastore (pc := 21) d_AL_set_21 h_r0_elementData is21_3 in21_2 (fun F1_ hF1_ => ?_)
  have g2_ : F1_ r0 = some (.inr (12, [.ref r0_elementData, .int ir0_size, .int ir0_modCount])) := by rw [← hF1_]; exact ev_up_k (ev_ne_oa h_r0 h_r0_elementData) h_r0
  have g3_ : F1_ r0_elementData = some (.inl (5, r0_elementData_n, .inr (.inr (.inr (.inr (va_up r0_elementData_f i1.toNatClampNeg (some r2))))))) := by rw [← hF1_]; exact ev_up_s
  refine ev_aload_n (pc := 22) d_AL_set_22 rfl ?_
  exact ev_areturn (pc := 23) d_AL_set_23 rfl (Or.inl ⟨_, rfl⟩) (Or.inr ⟨_, rfl⟩) (by subst hF1_; exact q23_4)
set_option maxRecDepth 100000 in
set_option maxHeartbeats 4000000 in
theorem s_Int_bitCount_0 {l : Launch} {X : ev_X} {bc bs n : Nat} {F : ev_H} {Q : Option Value → Nat → ev_H → Prop} {i0 : Int32} 
    (q52_0 : Q (some (.int ((((((((i0 - (((i0.toUInt32 >>> ((1 : Int32).toUInt32 &&& Int32.toUInt32 31)).toInt32) &&& 1431655765)) &&& 858993459) + ((((i0 - (((i0.toUInt32 >>> ((1 : Int32).toUInt32 &&& Int32.toUInt32 31)).toInt32) &&& 1431655765)).toUInt32 >>> ((2 : Int32).toUInt32 &&& Int32.toUInt32 31)).toInt32) &&& 858993459)) + (((((i0 - (((i0.toUInt32 >>> ((1 : Int32).toUInt32 &&& Int32.toUInt32 31)).toInt32) &&& 1431655765)) &&& 858993459) + ((((i0 - (((i0.toUInt32 >>> ((1 : Int32).toUInt32 &&& Int32.toUInt32 31)).toInt32) &&& 1431655765)).toUInt32 >>> ((2 : Int32).toUInt32 &&& Int32.toUInt32 31)).toInt32) &&& 858993459)).toUInt32 >>> ((4 : Int32).toUInt32 &&& Int32.toUInt32 31)).toInt32)) &&& 252645135) + (((((((i0 - (((i0.toUInt32 >>> ((1 : Int32).toUInt32 &&& Int32.toUInt32 31)).toInt32) &&& 1431655765)) &&& 858993459) + ((((i0 - (((i0.toUInt32 >>> ((1 : Int32).toUInt32 &&& Int32.toUInt32 31)).toInt32) &&& 1431655765)).toUInt32 >>> ((2 : Int32).toUInt32 &&& Int32.toUInt32 31)).toInt32) &&& 858993459)) + (((((i0 - (((i0.toUInt32 >>> ((1 : Int32).toUInt32 &&& Int32.toUInt32 31)).toInt32) &&& 1431655765)) &&& 858993459) + ((((i0 - (((i0.toUInt32 >>> ((1 : Int32).toUInt32 &&& Int32.toUInt32 31)).toInt32) &&& 1431655765)).toUInt32 >>> ((2 : Int32).toUInt32 &&& Int32.toUInt32 31)).toInt32) &&& 858993459)).toUInt32 >>> ((4 : Int32).toUInt32 &&& Int32.toUInt32 31)).toInt32)) &&& 252645135).toUInt32 >>> ((8 : Int32).toUInt32 &&& Int32.toUInt32 31)).toInt32)) + ((((((((i0 - (((i0.toUInt32 >>> ((1 : Int32).toUInt32 &&& Int32.toUInt32 31)).toInt32) &&& 1431655765)) &&& 858993459) + ((((i0 - (((i0.toUInt32 >>> ((1 : Int32).toUInt32 &&& Int32.toUInt32 31)).toInt32) &&& 1431655765)).toUInt32 >>> ((2 : Int32).toUInt32 &&& Int32.toUInt32 31)).toInt32) &&& 858993459)) + (((((i0 - (((i0.toUInt32 >>> ((1 : Int32).toUInt32 &&& Int32.toUInt32 31)).toInt32) &&& 1431655765)) &&& 858993459) + ((((i0 - (((i0.toUInt32 >>> ((1 : Int32).toUInt32 &&& Int32.toUInt32 31)).toInt32) &&& 1431655765)).toUInt32 >>> ((2 : Int32).toUInt32 &&& Int32.toUInt32 31)).toInt32) &&& 858993459)).toUInt32 >>> ((4 : Int32).toUInt32 &&& Int32.toUInt32 31)).toInt32)) &&& 252645135) + (((((((i0 - (((i0.toUInt32 >>> ((1 : Int32).toUInt32 &&& Int32.toUInt32 31)).toInt32) &&& 1431655765)) &&& 858993459) + ((((i0 - (((i0.toUInt32 >>> ((1 : Int32).toUInt32 &&& Int32.toUInt32 31)).toInt32) &&& 1431655765)).toUInt32 >>> ((2 : Int32).toUInt32 &&& Int32.toUInt32 31)).toInt32) &&& 858993459)) + (((((i0 - (((i0.toUInt32 >>> ((1 : Int32).toUInt32 &&& Int32.toUInt32 31)).toInt32) &&& 1431655765)) &&& 858993459) + ((((i0 - (((i0.toUInt32 >>> ((1 : Int32).toUInt32 &&& Int32.toUInt32 31)).toInt32) &&& 1431655765)).toUInt32 >>> ((2 : Int32).toUInt32 &&& Int32.toUInt32 31)).toInt32) &&& 858993459)).toUInt32 >>> ((4 : Int32).toUInt32 &&& Int32.toUInt32 31)).toInt32)) &&& 252645135).toUInt32 >>> ((8 : Int32).toUInt32 &&& Int32.toUInt32 31)).toInt32)).toUInt32 >>> ((16 : Int32).toUInt32 &&& Int32.toUInt32 31)).toInt32)) &&& 63))) n F) :
    Ev l X M_Int_bitCount bc bs 0 [(0, .int i0)] [] n F (ev_mq X Q) := by
  refine ev_iload_n (pc := 0) d_Int_bitCount_0 rfl ?_
  refine ev_iload_n (pc := 1) d_Int_bitCount_1 rfl ?_
  refine ev_iconst (pc := 2) 1 d_Int_bitCount_2 (by decide) ?_
  refine ev_iushr (pc := 3) d_Int_bitCount_3 ?_
  refine ev_ldcw (pc := 4) (v := 1431655765) d_Int_bitCount_4 wd_553 ?_
  refine ev_iand (pc := 7) d_Int_bitCount_7 ?_
  refine ev_isub (pc := 8) d_Int_bitCount_8 ?_
  refine ev_istore_n (pc := 9) d_Int_bitCount_9 (Nat.le_of_ble_eq_true rfl) [0] rfl ?_
  refine ev_iload_n (pc := 10) d_Int_bitCount_10 rfl ?_
  refine ev_ldcw (pc := 11) (v := 858993459) d_Int_bitCount_11 wd_554 ?_
  refine ev_iand (pc := 14) d_Int_bitCount_14 ?_
  refine ev_iload_n (pc := 15) d_Int_bitCount_15 rfl ?_
  refine ev_iconst (pc := 16) 2 d_Int_bitCount_16 (by decide) ?_
  refine ev_iushr (pc := 17) d_Int_bitCount_17 ?_
  refine ev_ldcw (pc := 18) (v := 858993459) d_Int_bitCount_18 wd_554 ?_
  refine ev_iand (pc := 21) d_Int_bitCount_21 ?_
  refine ev_iadd (pc := 22) d_Int_bitCount_22 ?_
  refine ev_istore_n (pc := 23) d_Int_bitCount_23 (Nat.le_of_ble_eq_true rfl) [0] rfl ?_
  refine ev_iload_n (pc := 24) d_Int_bitCount_24 rfl ?_
  refine ev_iload_n (pc := 25) d_Int_bitCount_25 rfl ?_
  refine ev_iconst (pc := 26) 4 d_Int_bitCount_26 (by decide) ?_
  refine ev_iushr (pc := 27) d_Int_bitCount_27 ?_
  refine ev_iadd (pc := 28) d_Int_bitCount_28 ?_
  refine ev_ldcw (pc := 29) (v := 252645135) d_Int_bitCount_29 wd_555 ?_
  refine ev_iand (pc := 32) d_Int_bitCount_32 ?_
  refine ev_istore_n (pc := 33) d_Int_bitCount_33 (Nat.le_of_ble_eq_true rfl) [0] rfl ?_
  refine ev_iload_n (pc := 34) d_Int_bitCount_34 rfl ?_
  refine ev_iload_n (pc := 35) d_Int_bitCount_35 rfl ?_
  refine ev_bipush (pc := 36) 8 d_Int_bitCount_36 (by decide) ?_
  refine ev_iushr (pc := 38) d_Int_bitCount_38 ?_
  refine ev_iadd (pc := 39) d_Int_bitCount_39 ?_
  refine ev_istore_n (pc := 40) d_Int_bitCount_40 (Nat.le_of_ble_eq_true rfl) [0] rfl ?_
  refine ev_iload_n (pc := 41) d_Int_bitCount_41 rfl ?_
  refine ev_iload_n (pc := 42) d_Int_bitCount_42 rfl ?_
  refine ev_bipush (pc := 43) 16 d_Int_bitCount_43 (by decide) ?_
  refine ev_iushr (pc := 45) d_Int_bitCount_45 ?_
  refine ev_iadd (pc := 46) d_Int_bitCount_46 ?_
  refine ev_istore_n (pc := 47) d_Int_bitCount_47 (Nat.le_of_ble_eq_true rfl) [0] rfl ?_
  refine ev_iload_n (pc := 48) d_Int_bitCount_48 rfl ?_
  refine ev_bipush (pc := 49) 63 d_Int_bitCount_49 (by decide) ?_
  refine ev_iand (pc := 51) d_Int_bitCount_51 ?_
  exact ev_ireturn (pc := 52) d_Int_bitCount_52 rfl rfl q52_0
