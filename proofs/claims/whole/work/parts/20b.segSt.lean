set_option maxRecDepth 100000 in
set_option maxHeartbeats 4000000 in
theorem s_St_init_0 {l : Launch} {X : ev_X} {bc bs n : Nat} {F : ev_H} {Q : Option Value → Nat → ev_H → Prop} {r0 : Nat} {rc7 : Nat} {rs7 : Nat} {ir0_length : Int32} {rc15 : Nat} {rs15 : Nat} (hb_rc7 : rc7 + 1 ≤ bc) (hs_rs7 : rs7 + 12 ≤ bs) (h_r0 : F r0 = some (.inr (1, [.ref (r0 + 1), .ref (r0 + 2), .int ir0_length]))) (hb_rc15 : rc15 + 1 ≤ rc7) (hs_rs15 : rs15 + 12 ≤ rs7)
    (q25_0 : Q none (n + 2) (ev_up (ev_up (ev_up (ev_up (ev_up F n (.inl (3, 12, .inl (fun _ => 0)))) r0 (.inr (1, [.ref n, .ref (r0 + 2), .int ir0_length]))) (n + 1) (.inl (2, 12, .inl (fun _ => 0)))) r0 (.inr (1, [.ref n, .ref (n + 1), .int ir0_length]))) r0 (.inr (1, [.ref n, .ref (n + 1), .int 0])))) :
    Ev l X M_St_init bc bs 0 [(0, .ref r0)] [] n F (ev_mq X Q) := by
  refine ev_aload_n (pc := 0) d_St_init_0 rfl ?_
  refine ev_objInit (pc := 1) d_St_init_1 wd_40 wd_33 wd_34 (Nat.le_of_ble_eq_true rfl) (Nat.le_of_ble_eq_true rfl) ?_
  refine ev_aload_n (pc := 4) d_St_init_4 rfl ?_
  refine ev_bipush (pc := 5) 12 d_St_init_5 (by decide) ?_
  refine ev_fresh fun fr7 => ?_
  refine ev_newarray (pc := 7) 3 12 (12, .inl (fun _ => 0)) d_St_init_7 wd_51 rfl rfl (fun _ _ h => h) (fun _ => rfl) (by decide) (by decide) (by decide) (bc2 := rc7) (bs2 := rs7) hb_rc7 hs_rs7 (fun F1_ hF1_ => ?_)
  have g2_ : F1_ n = some (.inl (3, 12, .inl (fun _ => 0))) := by rw [← hF1_]; exact ev_up_s
  have g3_ : F1_ r0 = some (.inr (1, [.ref (r0 + 1), .ref (r0 + 2), .int ir0_length])) := by rw [← hF1_]; exact ev_up_k (ev_nf h_r0 (fr7 _ (Nat.le_refl _))) h_r0
  refine ev_putfield (pc := 9) 0 _ d_St_init_9 fl_St_9 g3_ (ev_pfn (r0 := rC1) (ty := (.array .char)) rfl (Or.inr ⟨rfl, rfl, rfl⟩) (by decide +kernel)) rfl rfl (Nat.le_of_ble_eq_true rfl) (fun F4_ hF4_ => ?_)
  have g5_ : F4_ n = some (.inl (3, 12, .inl (fun _ => 0))) := by rw [← hF4_]; exact ev_up_k (ev_ne_ao g2_ g3_) g2_
  have g6_ : F4_ r0 = some (.inr (1, [.ref n, .ref (r0 + 2), .int ir0_length])) := by rw [← hF4_]; exact ev_up_s
  refine ev_aload_n (pc := 12) d_St_init_12 rfl ?_
  refine ev_bipush (pc := 13) 12 d_St_init_13 (by decide) ?_
  refine ev_fresh fun fr15 => ?_
  refine ev_newarray (pc := 15) 2 12 (12, .inl (fun _ => 0)) d_St_init_15 wd_52 rfl rfl (fun _ _ h => h) (fun _ => rfl) (by decide) (by decide) (by decide) (bc2 := rc15) (bs2 := rs15) hb_rc15 hs_rs15 (fun F7_ hF7_ => ?_)
  have g8_ : F7_ n = some (.inl (3, 12, .inl (fun _ => 0))) := by rw [← hF7_]; exact ev_up_k (ev_nf g5_ (fr15 _ (Nat.le_refl _))) g5_
  have g9_ : F7_ r0 = some (.inr (1, [.ref n, .ref (r0 + 2), .int ir0_length])) := by rw [← hF7_]; exact ev_up_k (ev_nf g6_ (fr15 _ (Nat.le_refl _))) g6_
  have g10_ : F7_ (n + 1) = some (.inl (2, 12, .inl (fun _ => 0))) := by rw [← hF7_]; exact ev_up_s
  refine ev_putfield (pc := 17) 1 _ d_St_init_17 fl_St_15 g9_ (ev_pfn (r0 := rC1) (ty := (.array .boolean)) rfl (Or.inr ⟨rfl, rfl, rfl⟩) (by decide +kernel)) rfl rfl (Nat.le_of_ble_eq_true rfl) (fun F11_ hF11_ => ?_)
  have g12_ : F11_ n = some (.inl (3, 12, .inl (fun _ => 0))) := by rw [← hF11_]; exact ev_up_k (ev_ne_ao g8_ g9_) g8_
  have g13_ : F11_ (n + 1) = some (.inl (2, 12, .inl (fun _ => 0))) := by rw [← hF11_]; exact ev_up_k (ev_ne_ao g10_ g9_) g10_
  have g14_ : F11_ r0 = some (.inr (1, [.ref n, .ref (n + 1), .int ir0_length])) := by rw [← hF11_]; exact ev_up_s
  refine ev_aload_n (pc := 20) d_St_init_20 rfl ?_
  refine ev_iconst (pc := 21) 0 d_St_init_21 (by decide) ?_
  refine ev_putfield (pc := 22) 2 _ d_St_init_22 fl_St_19 g14_ pf_1_length rfl rfl (Nat.le_of_ble_eq_true rfl) (fun F15_ hF15_ => ?_)
  have g16_ : F15_ n = some (.inl (3, 12, .inl (fun _ => 0))) := by rw [← hF15_]; exact ev_up_k (ev_ne_ao g12_ g14_) g12_
  have g17_ : F15_ (n + 1) = some (.inl (2, 12, .inl (fun _ => 0))) := by rw [← hF15_]; exact ev_up_k (ev_ne_ao g13_ g14_) g13_
  have g18_ : F15_ r0 = some (.inr (1, [.ref n, .ref (n + 1), .int 0])) := by rw [← hF15_]; exact ev_up_s
  exact ev_return (pc := 25) d_St_init_25 rfl (by subst hF1_ hF4_ hF7_ hF11_ hF15_; exact q25_0)
set_option maxRecDepth 100000 in
set_option maxHeartbeats 4000000 in
theorem s_St_isWord_0 {l : Launch} {X : ev_X} {bc bs n : Nat} {F : ev_H} {Q : Option Value → Nat → ev_H → Prop} {j0 : Int64} 
    (k5_0 : Ev l X M_St_isWord bc bs 5 [(0, .long j0), (2, .long j0), (4, .int 0)] [] n F (ev_mq X Q)) :
    Ev l X M_St_isWord bc bs 0 [(0, .long j0)] [] n F (ev_mq X Q) := by
  refine ev_lload_n (pc := 0) d_St_isWord_0 rfl ?_
  refine ev_lstore_n (pc := 1) d_St_isWord_1 (Nat.le_of_ble_eq_true rfl) [1, 0] rfl ?_
  refine ev_iconst (pc := 2) 0 d_St_isWord_2 (by decide) ?_
  refine ev_istore (pc := 3) d_St_isWord_3 (Nat.le_of_ble_eq_true rfl) [1, 2, 0] rfl ?_
  exact k5_0

set_option maxRecDepth 100000 in
set_option maxHeartbeats 4000000 in
theorem s_St_isWord_5 {l : Launch} {X : ev_X} {bc bs n : Nat} {F : ev_H} {Q : Option Value → Nat → ev_H → Prop} {j0 : Int64} {j2 : Int64} {i4 : Int32} 
    (k53_0 : (12 ≤ i4) → Ev l X M_St_isWord bc bs 53 [(0, .long j0), (2, .long j2), (4, .int i4)] [] n F (ev_mq X Q))
    (k53_1 : (¬ 12 ≤ i4) → ((lg_cmp j2 0) = 0) → Ev l X M_St_isWord bc bs 53 [(0, .long j0), (2, .long j2), (4, .int i4)] [] n F (ev_mq X Q))
    (k41_2 : (¬ 12 ≤ i4) → (¬ (lg_cmp j2 0) = 0) → ((lg_cmp (j2 &&& 31) 1) < 0) → Ev l X M_St_isWord bc bs 41 [(0, .long j0), (2, .long j2), (4, .int i4), (5, .long (j2 &&& 31))] [] n F (ev_mq X Q))
    (k5_3 : (¬ 12 ≤ i4) → (¬ (lg_cmp j2 0) = 0) → (¬ (lg_cmp (j2 &&& 31) 1) < 0) → ((lg_cmp (j2 &&& 31) 26) ≤ 0) → Ev l X M_St_isWord bc bs 5 [(0, .long j0), (2, .long ((j2.toUInt64 >>> ((5 : Int32).toInt64.toUInt64 &&& Int64.toUInt64 63)).toInt64)), (4, .int (i4 + 1))] [] n F (ev_mq X Q))
    (k41_4 : (¬ 12 ≤ i4) → (¬ (lg_cmp j2 0) = 0) → (¬ (lg_cmp (j2 &&& 31) 1) < 0) → (¬ (lg_cmp (j2 &&& 31) 26) ≤ 0) → Ev l X M_St_isWord bc bs 41 [(0, .long j0), (2, .long j2), (4, .int i4), (5, .long (j2 &&& 31))] [] n F (ev_mq X Q)) :
    Ev l X M_St_isWord bc bs 5 [(0, .long j0), (2, .long j2), (4, .int i4)] [] n F (ev_mq X Q) := by
  refine ev_iload (pc := 5) d_St_isWord_5 rfl ?_
  refine ev_bipush (pc := 7) 12 d_St_isWord_7 (by decide) ?_
  refine ev_icmp_ge (pc := 9) 53 d_St_isWord_9 (by decide) (fun c9 => ?_) (fun c9 => ?_)
  · exact (k53_0 c9)
  · refine ev_lload_n (pc := 12) d_St_isWord_12 rfl ?_
    refine ev_lconst (pc := 13) 0 d_St_isWord_13 (by decide) ?_
    refine ev_lcmp (pc := 14) d_St_isWord_14 ?_
    refine ev_if_eq (pc := 15) 53 d_St_isWord_15 (by decide) (fun c15 => ?_) (fun c15 => ?_)
    · exact (k53_1 c9 c15)
    · refine ev_lload_n (pc := 18) d_St_isWord_18 rfl ?_
      refine ev_ldc2 (pc := 19) (v := 31) d_St_isWord_19 wd_230 ?_
      refine ev_land (pc := 22) d_St_isWord_22 ?_
      refine ev_lstore (pc := 23) d_St_isWord_23 (Nat.le_of_ble_eq_true rfl) [1, 2, 3, 0] rfl ?_
      refine ev_lload (pc := 25) d_St_isWord_25 rfl ?_
      refine ev_lconst (pc := 27) 1 d_St_isWord_27 (by decide) ?_
      refine ev_lcmp (pc := 28) d_St_isWord_28 ?_
      refine ev_if_lt (pc := 29) 41 d_St_isWord_29 (by decide) (fun c29 => ?_) (fun c29 => ?_)
      · exact (k41_2 c9 c15 c29)
      · refine ev_lload (pc := 32) d_St_isWord_32 rfl ?_
        refine ev_ldc2 (pc := 34) (v := 26) d_St_isWord_34 wd_231 ?_
        refine ev_lcmp (pc := 37) d_St_isWord_37 ?_
        refine ev_if_le (pc := 38) 43 d_St_isWord_38 (by decide) (fun c38 => ?_) (fun c38 => ?_)
        · refine ev_lload_n (pc := 43) d_St_isWord_43 rfl ?_
          refine ev_iconst (pc := 44) 5 d_St_isWord_44 (by decide) ?_
          refine ev_lushr (pc := 45) d_St_isWord_45 ?_
          refine ev_lstore_n (pc := 46) d_St_isWord_46 (Nat.le_of_ble_eq_true rfl) [1, 0, 2, 3] rfl ?_
          refine ev_iinc (pc := 47) 2 1 d_St_isWord_47 rfl (by decide) (Nat.le_of_ble_eq_true rfl) [1, 2, 0, 3] rfl ?_
          refine ev_goto (pc := 50) 5 d_St_isWord_50 (by decide) ?_
          exact Ev.sub [0, 1, 2] rfl (k5_3 c9 c15 c29 c38)
        · exact (k41_4 c9 c15 c29 c38)

set_option maxRecDepth 100000 in
set_option maxHeartbeats 4000000 in
theorem s_St_isWord_41 {l : Launch} {X : ev_X} {bc bs n : Nat} {F : ev_H} {Q : Option Value → Nat → ev_H → Prop} {j0 : Int64} {j2 : Int64} {i4 : Int32} {j5 : Int64} 
    (q42_0 : Q (some (.int 0)) n F) :
    Ev l X M_St_isWord bc bs 41 [(0, .long j0), (2, .long j2), (4, .int i4), (5, .long j5)] [] n F (ev_mq X Q) := by
  refine ev_iconst (pc := 41) 0 d_St_isWord_41 (by decide) ?_
  exact ev_ireturn (pc := 42) d_St_isWord_42 rfl rfl q42_0

set_option maxRecDepth 100000 in
set_option maxHeartbeats 4000000 in
theorem s_St_isWord_53 {l : Launch} {X : ev_X} {bc bs n : Nat} {F : ev_H} {Q : Option Value → Nat → ev_H → Prop} {j0 : Int64} {j2 : Int64} {i4 : Int32} 
    (k70_0 : ((lg_cmp j0 0) = 0) → Ev l X M_St_isWord bc bs 70 [(0, .long j0), (2, .long j2), (4, .int i4)] [.int 0] n F (ev_mq X Q))
    (k70_1 : (¬ (lg_cmp j0 0) = 0) → (¬ (lg_cmp j2 0) = 0) → Ev l X M_St_isWord bc bs 70 [(0, .long j0), (2, .long j2), (4, .int i4)] [.int 0] n F (ev_mq X Q))
    (k70_2 : (¬ (lg_cmp j0 0) = 0) → ((lg_cmp j2 0) = 0) → Ev l X M_St_isWord bc bs 70 [(0, .long j0), (2, .long j2), (4, .int i4)] [.int 1] n F (ev_mq X Q)) :
    Ev l X M_St_isWord bc bs 53 [(0, .long j0), (2, .long j2), (4, .int i4)] [] n F (ev_mq X Q) := by
  refine ev_lload_n (pc := 53) d_St_isWord_53 rfl ?_
  refine ev_lconst (pc := 54) 0 d_St_isWord_54 (by decide) ?_
  refine ev_lcmp (pc := 55) d_St_isWord_55 ?_
  refine ev_if_eq (pc := 56) 69 d_St_isWord_56 (by decide) (fun c56 => ?_) (fun c56 => ?_)
  · refine ev_iconst (pc := 69) 0 d_St_isWord_69 (by decide) ?_
    exact (k70_0 c56)
  · refine ev_lload_n (pc := 59) d_St_isWord_59 rfl ?_
    refine ev_lconst (pc := 60) 0 d_St_isWord_60 (by decide) ?_
    refine ev_lcmp (pc := 61) d_St_isWord_61 ?_
    refine ev_if_ne (pc := 62) 69 d_St_isWord_62 (by decide) (fun c62 => ?_) (fun c62 => ?_)
    · refine ev_iconst (pc := 69) 0 d_St_isWord_69 (by decide) ?_
      exact (k70_1 c56 c62)
    · refine ev_iconst (pc := 65) 1 d_St_isWord_65 (by decide) ?_
      refine ev_goto (pc := 66) 70 d_St_isWord_66 (by decide) ?_
      exact (k70_2 c56 c62)

set_option maxRecDepth 100000 in
set_option maxHeartbeats 4000000 in
theorem s_St_isWord_70 {l : Launch} {X : ev_X} {bc bs n : Nat} {F : ev_H} {Q : Option Value → Nat → ev_H → Prop} {j0 : Int64} {j2 : Int64} {i4 : Int32} {is0 : Int32} 
    (q70_0 : Q (some (.int is0)) n F)
    (nr70_1 : narrow .boolean (.int is0) = .int is0) :
    Ev l X M_St_isWord bc bs 70 [(0, .long j0), (2, .long j2), (4, .int i4)] [.int is0] n F (ev_mq X Q) := by
  exact ev_ireturn (pc := 70) d_St_isWord_70 rfl nr70_1 q70_0
set_option maxRecDepth 100000 in
set_option maxHeartbeats 4000000 in
theorem s_St_stemOf_0 {l : Launch} {X : ev_X} {bc bs n : Nat} {F : ev_H} {Q : Option Value → Nat → ev_H → Prop} {r0 : Nat} {j1 : Int64} {ir0_length : Int32} {Q2 : Option Value → Nat → ev_H → Prop} {bc2 : Nat} {bs2 : Nat} {rc2 : Nat} {rs2 : Nat} (h_r0 : F r0 = some (.inr (1, [.ref (r0 + 1), .ref (r0 + 2), .int ir0_length]))) (hb_rc2 : rc2 + bc2 ≤ bc) (hs_rs2 : rs2 + bs2 ≤ bs)
    (c2_0 : Cal l X M_St_unpack bc2 bs2 [.ref r0, .long j1] n F Q2)
    (k5_1 : ∀ v2 n2 F2, Q2 v2 n2 F2 → Ev l X M_St_stemOf rc2 rs2 5 [(0, .ref r0), (1, .long j1)] (v2.toList ++ []) n2 F2 (ev_mq X Q)) :
    Ev l X M_St_stemOf bc bs 0 [(0, .ref r0), (1, .long j1)] [] n F (ev_mq X Q) := by
  refine ev_aload_n (pc := 0) d_St_stemOf_0 rfl ?_
  refine ev_lload_n (pc := 1) d_St_stemOf_1 rfl ?_
  exact ev_invokevirtual (pc := 2) (As := [.long j1]) (st := []) (Q2 := Q2) M_St_unpack rC1 d_St_stemOf_2 lc_St_39 wd_238 wd_s0 rfl h_r0 rfl rfl (Nat.le_of_ble_eq_true rfl) (Nat.le_of_ble_eq_true rfl) (Nat.le_of_ble_eq_true rfl) hb_rc2 hs_rs2 c2_0 k5_1

set_option maxRecDepth 100000 in
set_option maxHeartbeats 4000000 in
theorem s_St_stemOf_5 {l : Launch} {X : ev_X} {bc bs n : Nat} {F : ev_H} {Q : Option Value → Nat → ev_H → Prop} {r0 : Nat} {j1 : Int64} {ir0_length : Int32} {v26 : Int64} {Q14 : Option Value → Nat → ev_H → Prop} {bc14 : Nat} {bs14 : Nat} {rc14 : Nat} {rs14 : Nat} (h_r0 : F r0 = some (.inr (1, [.ref (r0 + 1), .ref (r0 + 2), .int ir0_length]))) (hb_rc14 : rc14 + bc14 ≤ bc) (hs_rs14 : rs14 + bs14 ≤ bs)
    (c26_0 : (ir0_length ≤ 2) → Cal l X M_St_packed 0 0 [.ref r0] n F (ev_pure (.long v26) n F))
    (q29_1 : (ir0_length ≤ 2) → Q (some (.long v26)) n F)
    (c14_2 : (¬ ir0_length ≤ 2) → Cal l X M_St_dropPlural bc14 bs14 [.ref r0] n F Q14)
    (k17_3 : (¬ ir0_length ≤ 2) → ∀ v2 n2 F2, Q14 v2 n2 F2 → Ev l X M_St_stemOf rc14 rs14 17 [(0, .ref r0), (1, .long j1)] (v2.toList ++ []) n2 F2 (ev_mq X Q)) :
    Ev l X M_St_stemOf bc bs 5 [(0, .ref r0), (1, .long j1)] [] n F (ev_mq X Q) := by
  refine ev_aload_n (pc := 5) d_St_stemOf_5 rfl ?_
  refine ev_getfield (pc := 6) 2 d_St_stemOf_6 fl_St_19 h_r0 rfl ?_
  refine ev_iconst (pc := 9) 2 d_St_stemOf_9 (by decide) ?_
  refine ev_icmp_le (pc := 10) 25 d_St_stemOf_10 (by decide) (fun c10 => ?_) (fun c10 => ?_)
  · refine ev_aload_n (pc := 25) d_St_stemOf_25 rfl ?_
    refine ev_invokevirtual (pc := 26) (As := []) (st := []) (Q2 := ev_pure (.long v26) n F) (bc1 := 0) (bs1 := 0) M_St_packed rC1 d_St_stemOf_26 lc_St_52 wd_404 wd_s11 rfl h_r0 rfl rfl (Nat.le_of_ble_eq_true rfl) (Nat.le_of_ble_eq_true rfl) (Nat.le_of_ble_eq_true rfl) (Nat.le_refl _) (Nat.le_refl _) (c26_0 c10) ?_
    refine ev_purek ?_
    exact ev_lreturn (pc := 29) d_St_stemOf_29 rfl (q29_1 c10)
  · refine ev_aload_n (pc := 13) d_St_stemOf_13 rfl ?_
    exact ev_invokevirtual (pc := 14) (As := []) (st := []) (Q2 := Q14) M_St_dropPlural rC1 d_St_stemOf_14 lc_St_43 wd_334 wd_s2 rfl h_r0 rfl rfl (Nat.le_of_ble_eq_true rfl) (Nat.le_of_ble_eq_true rfl) (Nat.le_of_ble_eq_true rfl) hb_rc14 hs_rs14 (c14_2 c10) (k17_3 c10)

set_option maxRecDepth 100000 in
set_option maxHeartbeats 4000000 in
theorem s_St_stemOf_17 {l : Launch} {X : ev_X} {bc bs n : Nat} {F : ev_H} {Q : Option Value → Nat → ev_H → Prop} {r0 : Nat} {j1 : Int64} {ir0_length : Int32} {Q18 : Option Value → Nat → ev_H → Prop} {bc18 : Nat} {bs18 : Nat} {rc18 : Nat} {rs18 : Nat} (h_r0 : F r0 = some (.inr (1, [.ref (r0 + 1), .ref (r0 + 2), .int ir0_length]))) (hb_rc18 : rc18 + bc18 ≤ bc) (hs_rs18 : rs18 + bs18 ≤ bs)
    (c18_0 : Cal l X M_St_dropPastOrGerund bc18 bs18 [.ref r0] n F Q18)
    (k21_1 : ∀ v2 n2 F2, Q18 v2 n2 F2 → Ev l X M_St_stemOf rc18 rs18 21 [(0, .ref r0), (1, .long j1)] (v2.toList ++ []) n2 F2 (ev_mq X Q)) :
    Ev l X M_St_stemOf bc bs 17 [(0, .ref r0), (1, .long j1)] [] n F (ev_mq X Q) := by
  refine ev_aload_n (pc := 17) d_St_stemOf_17 rfl ?_
  exact ev_invokevirtual (pc := 18) (As := []) (st := []) (Q2 := Q18) M_St_dropPastOrGerund rC1 d_St_stemOf_18 lc_St_46 wd_367 wd_s4 rfl h_r0 rfl rfl (Nat.le_of_ble_eq_true rfl) (Nat.le_of_ble_eq_true rfl) (Nat.le_of_ble_eq_true rfl) hb_rc18 hs_rs18 c18_0 k21_1

set_option maxRecDepth 100000 in
set_option maxHeartbeats 4000000 in
theorem s_St_stemOf_21 {l : Launch} {X : ev_X} {bc bs n : Nat} {F : ev_H} {Q : Option Value → Nat → ev_H → Prop} {r0 : Nat} {j1 : Int64} {ir0_length : Int32} {Q22 : Option Value → Nat → ev_H → Prop} {bc22 : Nat} {bs22 : Nat} {rc22 : Nat} {rs22 : Nat} (h_r0 : F r0 = some (.inr (1, [.ref (r0 + 1), .ref (r0 + 2), .int ir0_length]))) (hb_rc22 : rc22 + bc22 ≤ bc) (hs_rs22 : rs22 + bs22 ≤ bs)
    (c22_0 : Cal l X M_St_turnFinalY bc22 bs22 [.ref r0] n F Q22)
    (k25_1 : ∀ v2 n2 F2, Q22 v2 n2 F2 → Ev l X M_St_stemOf rc22 rs22 25 [(0, .ref r0), (1, .long j1)] (v2.toList ++ []) n2 F2 (ev_mq X Q)) :
    Ev l X M_St_stemOf bc bs 21 [(0, .ref r0), (1, .long j1)] [] n F (ev_mq X Q) := by
  refine ev_aload_n (pc := 21) d_St_stemOf_21 rfl ?_
  exact ev_invokevirtual (pc := 22) (As := []) (st := []) (Q2 := Q22) M_St_turnFinalY rC1 d_St_stemOf_22 lc_St_49 wd_399 wd_s10 rfl h_r0 rfl rfl (Nat.le_of_ble_eq_true rfl) (Nat.le_of_ble_eq_true rfl) (Nat.le_of_ble_eq_true rfl) hb_rc22 hs_rs22 c22_0 k25_1

set_option maxRecDepth 100000 in
set_option maxHeartbeats 4000000 in
theorem s_St_stemOf_25 {l : Launch} {X : ev_X} {bc bs n : Nat} {F : ev_H} {Q : Option Value → Nat → ev_H → Prop} {r0 : Nat} {j1 : Int64} {ir0_length : Int32} {v26 : Int64} (h_r0 : F r0 = some (.inr (1, [.ref (r0 + 1), .ref (r0 + 2), .int ir0_length])))
    (c26_0 : Cal l X M_St_packed 0 0 [.ref r0] n F (ev_pure (.long v26) n F))
    (q29_1 : Q (some (.long v26)) n F) :
    Ev l X M_St_stemOf bc bs 25 [(0, .ref r0), (1, .long j1)] [] n F (ev_mq X Q) := by
  refine ev_aload_n (pc := 25) d_St_stemOf_25 rfl ?_
  refine ev_invokevirtual (pc := 26) (As := []) (st := []) (Q2 := ev_pure (.long v26) n F) (bc1 := 0) (bs1 := 0) M_St_packed rC1 d_St_stemOf_26 lc_St_52 wd_404 wd_s11 rfl h_r0 rfl rfl (Nat.le_of_ble_eq_true rfl) (Nat.le_of_ble_eq_true rfl) (Nat.le_of_ble_eq_true rfl) (Nat.le_refl _) (Nat.le_refl _) c26_0 ?_
  refine ev_purek ?_
  exact ev_lreturn (pc := 29) d_St_stemOf_29 rfl q29_1
set_option maxRecDepth 100000 in
set_option maxHeartbeats 4000000 in
theorem s_St_unpack_0 {l : Launch} {X : ev_X} {bc bs n : Nat} {F : ev_H} {Q : Option Value → Nat → ev_H → Prop} {r0 : Nat} {j1 : Int64} {ir0_length : Int32} (h_r0 : F r0 = some (.inr (1, [.ref (r0 + 1), .ref (r0 + 2), .int ir0_length])))
    (k10_0 : Ev l X M_St_unpack bc bs 10 [(0, .ref r0), (1, .long j1), (3, .long j1), (5, .int 0)] [] n (ev_up F r0 (.inr (1, [.ref (r0 + 1), .ref (r0 + 2), .int 0]))) (ev_mq X Q)) :
    Ev l X M_St_unpack bc bs 0 [(0, .ref r0), (1, .long j1)] [] n F (ev_mq X Q) := by
  refine ev_aload_n (pc := 0) d_St_unpack_0 rfl ?_
  refine ev_iconst (pc := 1) 0 d_St_unpack_1 (by decide) ?_
  refine ev_putfield (pc := 2) 2 _ d_St_unpack_2 fl_St_19 h_r0 pf_1_length rfl rfl (Nat.le_of_ble_eq_true rfl) (fun F1_ hF1_ => ?_)
  have g2_ : F1_ r0 = some (.inr (1, [.ref (r0 + 1), .ref (r0 + 2), .int 0])) := by rw [← hF1_]; exact ev_up_s
  refine ev_lload_n (pc := 5) d_St_unpack_5 rfl ?_
  refine ev_lstore_n (pc := 6) d_St_unpack_6 (Nat.le_of_ble_eq_true rfl) [1, 2, 0] rfl ?_
  refine ev_iconst (pc := 7) 0 d_St_unpack_7 (by decide) ?_
  refine ev_istore (pc := 8) d_St_unpack_8 (Nat.le_of_ble_eq_true rfl) [1, 2, 3, 0] rfl ?_
  exact (by subst hF1_; exact k10_0)

set_option maxRecDepth 100000 in
set_option maxHeartbeats 4000000 in
theorem s_St_unpack_10 {l : Launch} {X : ev_X} {bc bs n : Nat} {F : ev_H} {Q : Option Value → Nat → ev_H → Prop} {r0 : Nat} {j1 : Int64} {j3 : Int64} {i5 : Int32} {ir0_length : Int32} {Q35 : Option Value → Nat → ev_H → Prop} {bc35 : Nat} {bs35 : Nat} {rc35 : Nat} {rs35 : Nat} (h_r0 : F r0 = some (.inr (1, [.ref (r0 + 1), .ref (r0 + 2), .int ir0_length]))) (hb_rc35 : rc35 + bc35 ≤ bc) (hs_rs35 : rs35 + bs35 ≤ bs)
    (q48_0 : (12 ≤ i5) → Q none n F)
    (q48_1 : (¬ 12 ≤ i5) → ((lg_cmp j3 0) = 0) → Q none n F)
    (c35_2 : (¬ 12 ≤ i5) → (¬ (lg_cmp j3 0) = 0) → Cal l X M_St_append bc35 bs35 [.ref r0, .int ((((96 + (j3 &&& 31)).toInt32).toUInt32 % 65536).toInt32)] n F Q35)
    (k38_3 : (¬ 12 ≤ i5) → (¬ (lg_cmp j3 0) = 0) → ∀ v2 n2 F2, Q35 v2 n2 F2 → Ev l X M_St_unpack rc35 rs35 38 [(0, .ref r0), (1, .long j1), (3, .long j3), (5, .int i5)] (v2.toList ++ []) n2 F2 (ev_mq X Q)) :
    Ev l X M_St_unpack bc bs 10 [(0, .ref r0), (1, .long j1), (3, .long j3), (5, .int i5)] [] n F (ev_mq X Q) := by
  refine ev_iload (pc := 10) d_St_unpack_10 rfl ?_
  refine ev_bipush (pc := 12) 12 d_St_unpack_12 (by decide) ?_
  refine ev_icmp_ge (pc := 14) 48 d_St_unpack_14 (by decide) (fun c14 => ?_) (fun c14 => ?_)
  · exact ev_return (pc := 48) d_St_unpack_48 rfl (q48_0 c14)
  · refine ev_lload_n (pc := 17) d_St_unpack_17 rfl ?_
    refine ev_lconst (pc := 18) 0 d_St_unpack_18 (by decide) ?_
    refine ev_lcmp (pc := 19) d_St_unpack_19 ?_
    refine ev_if_eq (pc := 20) 48 d_St_unpack_20 (by decide) (fun c20 => ?_) (fun c20 => ?_)
    · exact ev_return (pc := 48) d_St_unpack_48 rfl (q48_1 c14 c20)
    · refine ev_aload_n (pc := 23) d_St_unpack_23 rfl ?_
      refine ev_ldc2 (pc := 24) (v := 96) d_St_unpack_24 wd_240 ?_
      refine ev_lload_n (pc := 27) d_St_unpack_27 rfl ?_
      refine ev_ldc2 (pc := 28) (v := 31) d_St_unpack_28 wd_230 ?_
      refine ev_land (pc := 31) d_St_unpack_31 ?_
      refine ev_ladd (pc := 32) d_St_unpack_32 ?_
      refine ev_l2i (pc := 33) d_St_unpack_33 ?_
      refine ev_i2c (pc := 34) d_St_unpack_34 ?_
      exact ev_invokevirtual (pc := 35) (As := [.int ((((96 + (j3 &&& 31)).toInt32).toUInt32 % 65536).toInt32)]) (st := []) (Q2 := Q35) M_St_append rC1 d_St_unpack_35 lc_St_58 wd_243 wd_s1 rfl h_r0 rfl rfl (Nat.le_of_ble_eq_true rfl) (Nat.le_of_ble_eq_true rfl) (Nat.le_of_ble_eq_true rfl) hb_rc35 hs_rs35 (c35_2 c14 c20) (k38_3 c14 c20)

set_option maxRecDepth 100000 in
set_option maxHeartbeats 4000000 in
theorem s_St_unpack_38 {l : Launch} {X : ev_X} {bc bs n : Nat} {F : ev_H} {Q : Option Value → Nat → ev_H → Prop} {r0 : Nat} {j1 : Int64} {j3 : Int64} {i5 : Int32} 
    (k10_0 : Ev l X M_St_unpack bc bs 10 [(0, .ref r0), (1, .long j1), (3, .long ((j3.toUInt64 >>> ((5 : Int32).toInt64.toUInt64 &&& Int64.toUInt64 63)).toInt64)), (5, .int (i5 + 1))] [] n F (ev_mq X Q)) :
    Ev l X M_St_unpack bc bs 38 [(0, .ref r0), (1, .long j1), (3, .long j3), (5, .int i5)] [] n F (ev_mq X Q) := by
  refine ev_lload_n (pc := 38) d_St_unpack_38 rfl ?_
  refine ev_iconst (pc := 39) 5 d_St_unpack_39 (by decide) ?_
  refine ev_lushr (pc := 40) d_St_unpack_40 ?_
  refine ev_lstore_n (pc := 41) d_St_unpack_41 (Nat.le_of_ble_eq_true rfl) [1, 2, 0, 3] rfl ?_
  refine ev_iinc (pc := 42) 3 1 d_St_unpack_42 rfl (by decide) (Nat.le_of_ble_eq_true rfl) [1, 2, 3, 0] rfl ?_
  refine ev_goto (pc := 45) 10 d_St_unpack_45 (by decide) ?_
  exact k10_0
set_option maxRecDepth 100000 in
set_option maxHeartbeats 4000000 in
theorem s_St_append_0 {l : Launch} {X : ev_X} {bc bs n : Nat} {F : ev_H} {Q : Option Value → Nat → ev_H → Prop} {r0 : Nat} {i1 : Int32} {ir0_length : Int32} {r0p2_f : Nat → Int32} (h_r0 : F r0 = some (.inr (1, [.ref (r0 + 1), .ref (r0 + 2), .int ir0_length]))) (h_r0p2 : F (r0 + 2) = some (.inl (2, 12, .inl r0p2_f)))
    (k36_0 : (ir0_length < 12) → (ir0_length ≤ 0) → Ev l X M_St_append bc bs 36 [(0, .ref r0), (1, .int i1)] [.int 0] n F (ev_mq X Q))
    (in27_1 : (ir0_length < 12) → (¬ ir0_length ≤ 0) → vp_in (ir0_length - 1) 12)
    (k36_2 : (ir0_length < 12) → (¬ ir0_length ≤ 0) → (¬ (r0p2_f (ir0_length - 1).toNatClampNeg) = 0) → Ev l X M_St_append bc bs 36 [(0, .ref r0), (1, .int i1)] [.int 0] n F (ev_mq X Q))
    (k36_3 : (ir0_length < 12) → (¬ ir0_length ≤ 0) → ((r0p2_f (ir0_length - 1).toNatClampNeg) = 0) → Ev l X M_St_append bc bs 36 [(0, .ref r0), (1, .int i1)] [.int 1] n F (ev_mq X Q))
    (q9_4 : (¬ ir0_length < 12) → Q none n F) :
    Ev l X M_St_append bc bs 0 [(0, .ref r0), (1, .int i1)] [] n F (ev_mq X Q) := by
  refine ev_aload_n (pc := 0) d_St_append_0 rfl ?_
  refine ev_getfield (pc := 1) 2 d_St_append_1 fl_St_19 h_r0 rfl ?_
  refine ev_bipush (pc := 4) 12 d_St_append_4 (by decide) ?_
  refine ev_icmp_lt (pc := 6) 10 d_St_append_6 (by decide) (fun c6 => ?_) (fun c6 => ?_)
  · refine ev_aload_n (pc := 10) d_St_append_10 rfl ?_
    refine ev_getfield (pc := 11) 2 d_St_append_11 fl_St_19 h_r0 rfl ?_
    refine ev_if_le (pc := 14) 35 d_St_append_14 (by decide) (fun c14 => ?_) (fun c14 => ?_)
    · refine ev_iconst (pc := 35) 0 d_St_append_35 (by decide) ?_
      exact (k36_0 c6 c14)
    · refine ev_aload_n (pc := 17) d_St_append_17 rfl ?_
      refine ev_getfield (pc := 18) 1 d_St_append_18 fl_St_15 h_r0 rfl ?_
      refine ev_aload_n (pc := 21) d_St_append_21 rfl ?_
      refine ev_getfield (pc := 22) 2 d_St_append_22 fl_St_19 h_r0 rfl ?_
      refine ev_iconst (pc := 25) 1 d_St_append_25 (by decide) ?_
      refine ev_isub (pc := 26) d_St_append_26 ?_
      refine ev_zaload (pc := 27) d_St_append_27 h_r0p2 rfl (in27_1 c6 c14) ?_
      refine ev_if_ne (pc := 28) 35 d_St_append_28 (by decide) (fun c28 => ?_) (fun c28 => ?_)
      · refine ev_iconst (pc := 35) 0 d_St_append_35 (by decide) ?_
        exact (k36_2 c6 c14 c28)
      · refine ev_iconst (pc := 31) 1 d_St_append_31 (by decide) ?_
        refine ev_goto (pc := 32) 36 d_St_append_32 (by decide) ?_
        exact (k36_3 c6 c14 c28)
  · exact ev_return (pc := 9) d_St_append_9 rfl (q9_4 c6)

set_option maxRecDepth 100000 in
set_option maxHeartbeats 4000000 in
theorem s_St_append_36 {l : Launch} {X : ev_X} {bc bs n : Nat} {F : ev_H} {Q : Option Value → Nat → ev_H → Prop} {r0 : Nat} {i1 : Int32} {is0 : Int32} {ir0_length : Int32} {r0p1_f : Nat → Int32} {v58 : Int32} (h_r0 : F r0 = some (.inr (1, [.ref (r0 + 1), .ref (r0 + 2), .int ir0_length]))) (h_r0p1 : F (r0 + 1) = some (.inl (3, 12, .inl r0p1_f)))
    (in46_0 : vp_in ir0_length 12)
    (nr46_1 : narrow .char (.int i1) = .int i1)
    (c58_2 : Cal l X M_Str_indexOf 0 0 [.ref (X.2.2.2.1 (10 + 0)), .int i1] n (ev_up F (r0 + 1) (.inl (3, 12, .inl (upd r0p1_f ir0_length.toNatClampNeg i1)))) (ev_pure (.int v58) n (ev_up F (r0 + 1) (.inl (3, 12, .inl (upd r0p1_f ir0_length.toNatClampNeg i1))))))
    (k79_3 : (0 ≤ v58) → Ev l X M_St_append bc bs 79 [(0, .ref r0), (1, .int i1), (2, .int is0)] [.int 1, .int ir0_length, .ref (r0 + 2)] n (ev_up F (r0 + 1) (.inl (3, 12, .inl (upd r0p1_f ir0_length.toNatClampNeg i1)))) (ev_mq X Q))
    (k79_4 : (¬ 0 ≤ v58) → (¬ i1 = 121) → Ev l X M_St_append bc bs 79 [(0, .ref r0), (1, .int i1), (2, .int is0)] [.int 0, .int ir0_length, .ref (r0 + 2)] n (ev_up F (r0 + 1) (.inl (3, 12, .inl (upd r0p1_f ir0_length.toNatClampNeg i1)))) (ev_mq X Q))
    (k79_5 : (¬ 0 ≤ v58) → (i1 = 121) → (is0 = 0) → Ev l X M_St_append bc bs 79 [(0, .ref r0), (1, .int i1), (2, .int is0)] [.int 0, .int ir0_length, .ref (r0 + 2)] n (ev_up F (r0 + 1) (.inl (3, 12, .inl (upd r0p1_f ir0_length.toNatClampNeg i1)))) (ev_mq X Q))
    (k79_6 : (¬ 0 ≤ v58) → (i1 = 121) → (¬ is0 = 0) → Ev l X M_St_append bc bs 79 [(0, .ref r0), (1, .int i1), (2, .int is0)] [.int 1, .int ir0_length, .ref (r0 + 2)] n (ev_up F (r0 + 1) (.inl (3, 12, .inl (upd r0p1_f ir0_length.toNatClampNeg i1)))) (ev_mq X Q)) :
    Ev l X M_St_append bc bs 36 [(0, .ref r0), (1, .int i1)] [.int is0] n F (ev_mq X Q) := by
  refine ev_istore_n (pc := 36) d_St_append_36 (Nat.le_of_ble_eq_true rfl) [1, 2, 0] rfl ?_
  refine ev_aload_n (pc := 37) d_St_append_37 rfl ?_
  refine ev_getfield (pc := 38) 0 d_St_append_38 fl_St_9 h_r0 rfl ?_
  refine ev_aload_n (pc := 41) d_St_append_41 rfl ?_
  refine ev_getfield (pc := 42) 2 d_St_append_42 fl_St_19 h_r0 rfl ?_
  refine ev_iload_n (pc := 45) d_St_append_45 rfl ?_
  refine ev_castore (pc := 46) d_St_append_46 h_r0p1 rfl in46_0 nr46_1 (fun F1_ hF1_ => ?_)
  have g2_ : F1_ r0 = some (.inr (1, [.ref (r0 + 1), .ref (r0 + 2), .int ir0_length])) := by rw [← hF1_]; exact ev_up_k (ev_ne_oa h_r0 h_r0p1) h_r0
  have g3_ : F1_ (r0 + 1) = some (.inl (3, 12, .inl (upd r0p1_f ir0_length.toNatClampNeg i1))) := by rw [← hF1_]; exact ev_up_s
  refine ev_aload_n (pc := 47) d_St_append_47 rfl ?_
  refine ev_getfield (pc := 48) 1 d_St_append_48 fl_St_15 g2_ rfl ?_
  refine ev_aload_n (pc := 51) d_St_append_51 rfl ?_
  refine ev_getfield (pc := 52) 2 d_St_append_52 fl_St_19 g2_ rfl ?_
  refine ev_ldcS (pc := 55) 0 d_St_append_55 (by decide) rfl rfl ?_
  refine ev_iload_n (pc := 57) d_St_append_57 rfl ?_
  refine ev_invokevirtualS (pc := 58) (As := [.int i1]) (st := [.int ir0_length, .ref (r0 + 2)]) (Q2 := ev_pure (.int v58) n F1_) (bc1 := 0) (bs1 := 0) M_Str_indexOf d_St_append_58 lc_St_64 wd_247 wd_248 ⟨by decide, rfl⟩ rfl rfl (Nat.le_of_ble_eq_true rfl) (Nat.le_of_ble_eq_true rfl) (Nat.le_of_ble_eq_true rfl) (Nat.le_refl _) (Nat.le_refl _) (by subst hF1_; exact c58_2) ?_
  refine ev_purek ?_
  refine ev_if_ge (pc := 61) 74 d_St_append_61 (by decide) (fun c61 => ?_) (fun c61 => ?_)
  · refine ev_iconst (pc := 74) 1 d_St_append_74 (by decide) ?_
    refine ev_goto (pc := 75) 79 d_St_append_75 (by decide) ?_
    exact (by subst hF1_; exact (k79_3 c61))
  · refine ev_iload_n (pc := 64) d_St_append_64 rfl ?_
    refine ev_bipush (pc := 65) 121 d_St_append_65 (by decide) ?_
    refine ev_icmp_ne (pc := 67) 78 d_St_append_67 (by decide) (fun c67 => ?_) (fun c67 => ?_)
    · refine ev_iconst (pc := 78) 0 d_St_append_78 (by decide) ?_
      exact (by subst hF1_; exact (k79_4 c61 c67))
    · refine ev_iload_n (pc := 70) d_St_append_70 rfl ?_
      refine ev_if_eq (pc := 71) 78 d_St_append_71 (by decide) (fun c71 => ?_) (fun c71 => ?_)
      · refine ev_iconst (pc := 78) 0 d_St_append_78 (by decide) ?_
        exact (by subst hF1_; exact (k79_5 c61 c67 c71))
      · refine ev_iconst (pc := 74) 1 d_St_append_74 (by decide) ?_
        refine ev_goto (pc := 75) 79 d_St_append_75 (by decide) ?_
        exact (by subst hF1_; exact (k79_6 c61 c67 c71))

set_option maxRecDepth 100000 in
set_option maxHeartbeats 4000000 in
theorem s_St_append_79 {l : Launch} {X : ev_X} {bc bs n : Nat} {F : ev_H} {Q : Option Value → Nat → ev_H → Prop} {r0 : Nat} {i1 : Int32} {i2 : Int32} {rs0 : Nat} {is1 : Int32} {is2 : Int32} {rs0_n : Nat} {rs0_f : Nat → Int32} {ir0_length : Int32} (h_rs0 : F rs0 = some (.inl (2, rs0_n, .inl rs0_f))) (h_r0 : F r0 = some (.inr (1, [.ref (r0 + 1), .ref (r0 + 2), .int ir0_length])))
    (in79_0 : vp_in is1 rs0_n)
    (nr79_1 : narrow .boolean (.int is2) = .int is2)
    (q90_2 : Q none n (ev_up (ev_up F rs0 (.inl (2, rs0_n, .inl (upd rs0_f is1.toNatClampNeg is2)))) r0 (.inr (1, [.ref (r0 + 1), .ref (r0 + 2), .int (ir0_length + 1)])))) :
    Ev l X M_St_append bc bs 79 [(0, .ref r0), (1, .int i1), (2, .int i2)] [.int is2, .int is1, .ref rs0] n F (ev_mq X Q) := by
  refine ev_zastore (pc := 79) d_St_append_79 h_rs0 rfl in79_0 nr79_1 (fun F1_ hF1_ => ?_)
  have g2_ : F1_ rs0 = some (.inl (2, rs0_n, .inl (upd rs0_f is1.toNatClampNeg is2))) := by rw [← hF1_]; exact ev_up_s
  refine ev_aload_n (pc := 80) d_St_append_80 rfl ?_
  refine ev_dup (pc := 81) d_St_append_81 rfl ?_
  have g3_ : F1_ r0 = some (.inr (1, [.ref (r0 + 1), .ref (r0 + 2), .int ir0_length])) := by rw [← hF1_]; exact ev_up_k (ev_ne_oa h_r0 h_rs0) h_r0
  refine ev_getfield (pc := 82) 2 d_St_append_82 fl_St_19 g3_ rfl ?_
  refine ev_iconst (pc := 85) 1 d_St_append_85 (by decide) ?_
  refine ev_iadd (pc := 86) d_St_append_86 ?_
  refine ev_putfield (pc := 87) 2 _ d_St_append_87 fl_St_19 g3_ pf_1_length rfl rfl (Nat.le_of_ble_eq_true rfl) (fun F4_ hF4_ => ?_)
  have g5_ : F4_ rs0 = some (.inl (2, rs0_n, .inl (upd rs0_f is1.toNatClampNeg is2))) := by rw [← hF4_]; exact ev_up_k (ev_ne_ao g2_ g3_) g2_
  have g6_ : F4_ r0 = some (.inr (1, [.ref (r0 + 1), .ref (r0 + 2), .int (ir0_length + 1)])) := by rw [← hF4_]; exact ev_up_s
  exact ev_return (pc := 90) d_St_append_90 rfl (by subst hF1_ hF4_; exact q90_2)
set_option maxRecDepth 100000 in
set_option maxHeartbeats 4000000 in
theorem s_St_dropPlural_0 {l : Launch} {X : ev_X} {bc bs n : Nat} {F : ev_H} {Q : Option Value → Nat → ev_H → Prop} {r0 : Nat} {ir0_length : Int32} {v3 : Int32} {v12 : Int32} {v34 : Int32} {v43 : Int32} (h_r0 : F r0 = some (.inr (1, [.ref (r0 + 1), .ref (r0 + 2), .int ir0_length])))
    (c3_0 : Cal l X M_St_endsIn 0 0 [.ref r0, .ref (X.2.2.2.1 (10 + 1))] n F (ev_pure (.int v3) n F))
    (q59_1 : (¬ v3 = 0) → Q none n (ev_up F r0 (.inr (1, [.ref (r0 + 1), .ref (r0 + 2), .int (ir0_length - 2)]))))
    (c12_2 : (v3 = 0) → Cal l X M_St_endsIn 0 0 [.ref r0, .ref (X.2.2.2.1 (10 + 2))] n F (ev_pure (.int v12) n F))
    (c34_3 : (v3 = 0) → (v12 = 0) → Cal l X M_St_endsIn 0 0 [.ref r0, .ref (X.2.2.2.1 (10 + 3))] n F (ev_pure (.int v34) n F))
    (q59_4 : (v3 = 0) → (v12 = 0) → (v34 = 0) → Q none n F)
    (c43_5 : (v3 = 0) → (v12 = 0) → (¬ v34 = 0) → Cal l X M_St_endsIn 0 0 [.ref r0, .ref (X.2.2.2.1 (10 + 4))] n F (ev_pure (.int v43) n F))
    (q59_6 : (v3 = 0) → (v12 = 0) → (¬ v34 = 0) → (¬ v43 = 0) → Q none n F)
    (q59_7 : (v3 = 0) → (v12 = 0) → (¬ v34 = 0) → (v43 = 0) → Q none n (ev_up F r0 (.inr (1, [.ref (r0 + 1), .ref (r0 + 2), .int (ir0_length - 1)]))))
    (q59_8 : (v3 = 0) → (¬ v12 = 0) → Q none n (ev_up F r0 (.inr (1, [.ref (r0 + 1), .ref (r0 + 2), .int (ir0_length - 2)])))) :
    Ev l X M_St_dropPlural bc bs 0 [(0, .ref r0)] [] n F (ev_mq X Q) := by
  refine ev_aload_n (pc := 0) d_St_dropPlural_0 rfl ?_
  refine ev_ldcS (pc := 1) 1 d_St_dropPlural_1 (by decide) rfl rfl ?_
  refine ev_invokevirtual (pc := 3) (As := [.ref (X.2.2.2.1 (10 + 1))]) (st := []) (Q2 := ev_pure (.int v3) n F) (bc1 := 0) (bs1 := 0) M_St_endsIn rC1 d_St_dropPlural_3 lc_St_72 wd_339 wd_s3 rfl h_r0 rfl rfl (Nat.le_of_ble_eq_true rfl) (Nat.le_of_ble_eq_true rfl) (Nat.le_of_ble_eq_true rfl) (Nat.le_refl _) (Nat.le_refl _) c3_0 ?_
  refine ev_purek ?_
  refine ev_if_ne (pc := 6) 18 d_St_dropPlural_6 (by decide) (fun c6 => ?_) (fun c6 => ?_)
  · refine ev_aload_n (pc := 18) d_St_dropPlural_18 rfl ?_
    refine ev_dup (pc := 19) d_St_dropPlural_19 rfl ?_
    refine ev_getfield (pc := 20) 2 d_St_dropPlural_20 fl_St_19 h_r0 rfl ?_
    refine ev_iconst (pc := 23) 2 d_St_dropPlural_23 (by decide) ?_
    refine ev_isub (pc := 24) d_St_dropPlural_24 ?_
    refine ev_putfield (pc := 25) 2 _ d_St_dropPlural_25 fl_St_19 h_r0 pf_1_length rfl rfl (Nat.le_of_ble_eq_true rfl) (fun F1_ hF1_ => ?_)
    have g2_ : F1_ r0 = some (.inr (1, [.ref (r0 + 1), .ref (r0 + 2), .int (ir0_length - 2)])) := by rw [← hF1_]; exact ev_up_s
    refine ev_goto (pc := 28) 59 d_St_dropPlural_28 (by decide) ?_
    exact ev_return (pc := 59) d_St_dropPlural_59 rfl (by subst hF1_; exact (q59_1 c6))
  · refine ev_aload_n (pc := 9) d_St_dropPlural_9 rfl ?_
    refine ev_ldcS (pc := 10) 2 d_St_dropPlural_10 (by decide) rfl rfl ?_
    refine ev_invokevirtual (pc := 12) (As := [.ref (X.2.2.2.1 (10 + 2))]) (st := []) (Q2 := ev_pure (.int v12) n F) (bc1 := 0) (bs1 := 0) M_St_endsIn rC1 d_St_dropPlural_12 lc_St_72 wd_339 wd_s3 rfl h_r0 rfl rfl (Nat.le_of_ble_eq_true rfl) (Nat.le_of_ble_eq_true rfl) (Nat.le_of_ble_eq_true rfl) (Nat.le_refl _) (Nat.le_refl _) (c12_2 c6) ?_
    refine ev_purek ?_
    refine ev_if_eq (pc := 15) 31 d_St_dropPlural_15 (by decide) (fun c15 => ?_) (fun c15 => ?_)
    · refine ev_aload_n (pc := 31) d_St_dropPlural_31 rfl ?_
      refine ev_ldcS (pc := 32) 3 d_St_dropPlural_32 (by decide) rfl rfl ?_
      refine ev_invokevirtual (pc := 34) (As := [.ref (X.2.2.2.1 (10 + 3))]) (st := []) (Q2 := ev_pure (.int v34) n F) (bc1 := 0) (bs1 := 0) M_St_endsIn rC1 d_St_dropPlural_34 lc_St_72 wd_339 wd_s3 rfl h_r0 rfl rfl (Nat.le_of_ble_eq_true rfl) (Nat.le_of_ble_eq_true rfl) (Nat.le_of_ble_eq_true rfl) (Nat.le_refl _) (Nat.le_refl _) (c34_3 c6 c15) ?_
      refine ev_purek ?_
      refine ev_if_eq (pc := 37) 59 d_St_dropPlural_37 (by decide) (fun c37 => ?_) (fun c37 => ?_)
      · exact ev_return (pc := 59) d_St_dropPlural_59 rfl (q59_4 c6 c15 c37)
      · refine ev_aload_n (pc := 40) d_St_dropPlural_40 rfl ?_
        refine ev_ldcS (pc := 41) 4 d_St_dropPlural_41 (by decide) rfl rfl ?_
        refine ev_invokevirtual (pc := 43) (As := [.ref (X.2.2.2.1 (10 + 4))]) (st := []) (Q2 := ev_pure (.int v43) n F) (bc1 := 0) (bs1 := 0) M_St_endsIn rC1 d_St_dropPlural_43 lc_St_72 wd_339 wd_s3 rfl h_r0 rfl rfl (Nat.le_of_ble_eq_true rfl) (Nat.le_of_ble_eq_true rfl) (Nat.le_of_ble_eq_true rfl) (Nat.le_refl _) (Nat.le_refl _) (c43_5 c6 c15 c37) ?_
        refine ev_purek ?_
        refine ev_if_ne (pc := 46) 59 d_St_dropPlural_46 (by decide) (fun c46 => ?_) (fun c46 => ?_)
        · exact ev_return (pc := 59) d_St_dropPlural_59 rfl (q59_6 c6 c15 c37 c46)
        · refine ev_aload_n (pc := 49) d_St_dropPlural_49 rfl ?_
          refine ev_dup (pc := 50) d_St_dropPlural_50 rfl ?_
          refine ev_getfield (pc := 51) 2 d_St_dropPlural_51 fl_St_19 h_r0 rfl ?_
          refine ev_iconst (pc := 54) 1 d_St_dropPlural_54 (by decide) ?_
          refine ev_isub (pc := 55) d_St_dropPlural_55 ?_
          refine ev_putfield (pc := 56) 2 _ d_St_dropPlural_56 fl_St_19 h_r0 pf_1_length rfl rfl (Nat.le_of_ble_eq_true rfl) (fun F3_ hF3_ => ?_)
          have g4_ : F3_ r0 = some (.inr (1, [.ref (r0 + 1), .ref (r0 + 2), .int (ir0_length - 1)])) := by rw [← hF3_]; exact ev_up_s
          exact ev_return (pc := 59) d_St_dropPlural_59 rfl (by subst hF3_; exact (q59_7 c6 c15 c37 c46))
    · refine ev_aload_n (pc := 18) d_St_dropPlural_18 rfl ?_
      refine ev_dup (pc := 19) d_St_dropPlural_19 rfl ?_
      refine ev_getfield (pc := 20) 2 d_St_dropPlural_20 fl_St_19 h_r0 rfl ?_
      refine ev_iconst (pc := 23) 2 d_St_dropPlural_23 (by decide) ?_
      refine ev_isub (pc := 24) d_St_dropPlural_24 ?_
      refine ev_putfield (pc := 25) 2 _ d_St_dropPlural_25 fl_St_19 h_r0 pf_1_length rfl rfl (Nat.le_of_ble_eq_true rfl) (fun F5_ hF5_ => ?_)
      have g6_ : F5_ r0 = some (.inr (1, [.ref (r0 + 1), .ref (r0 + 2), .int (ir0_length - 2)])) := by rw [← hF5_]; exact ev_up_s
      refine ev_goto (pc := 28) 59 d_St_dropPlural_28 (by decide) ?_
      exact ev_return (pc := 59) d_St_dropPlural_59 rfl (by subst hF5_; exact (q59_8 c6 c15))
set_option maxRecDepth 100000 in
set_option maxHeartbeats 4000000 in
theorem s_St_endsIn_0 {l : Launch} {X : ev_X} {bc bs n : Nat} {F : ev_H} {Q : Option Value → Nat → ev_H → Prop} {r0 : Nat} {r1 : Nat} {ir0_length : Int32} {r1_i : Nat} {v5 : Int32} (h_r0 : F r0 = some (.inr (1, [.ref (r0 + 1), .ref (r0 + 2), .int ir0_length]))) (h_r1 : ev_isS X r1 r1_i)
    (c5_0 : Cal l X M_Str_length 0 0 [.ref r1] n F (ev_pure (.int v5) n F))
    (k18_1 : (0 ≤ (ir0_length - v5)) → Ev l X M_St_endsIn bc bs 18 [(0, .ref r0), (1, .ref r1), (2, .int (ir0_length - v5)), (3, .int 0)] [] n F (ev_mq X Q))
    (q15_2 : (¬ 0 ≤ (ir0_length - v5)) → Q (some (.int 0)) n F) :
    Ev l X M_St_endsIn bc bs 0 [(0, .ref r0), (1, .ref r1)] [] n F (ev_mq X Q) := by
  refine ev_aload_n (pc := 0) d_St_endsIn_0 rfl ?_
  refine ev_getfield (pc := 1) 2 d_St_endsIn_1 fl_St_19 h_r0 rfl ?_
  refine ev_aload_n (pc := 4) d_St_endsIn_4 rfl ?_
  refine ev_invokevirtualS (pc := 5) (As := []) (st := [.int ir0_length]) (Q2 := ev_pure (.int v5) n F) (bc1 := 0) (bs1 := 0) M_Str_length d_St_endsIn_5 lc_St_113 wd_261 wd_262 h_r1 rfl rfl (Nat.le_of_ble_eq_true rfl) (Nat.le_of_ble_eq_true rfl) (Nat.le_of_ble_eq_true rfl) (Nat.le_refl _) (Nat.le_refl _) c5_0 ?_
  refine ev_purek ?_
  refine ev_isub (pc := 8) d_St_endsIn_8 ?_
  refine ev_istore_n (pc := 9) d_St_endsIn_9 (Nat.le_of_ble_eq_true rfl) [1, 2, 0] rfl ?_
  refine ev_iload_n (pc := 10) d_St_endsIn_10 rfl ?_
  refine ev_if_ge (pc := 11) 16 d_St_endsIn_11 (by decide) (fun c11 => ?_) (fun c11 => ?_)
  · refine ev_iconst (pc := 16) 0 d_St_endsIn_16 (by decide) ?_
    refine ev_istore_n (pc := 17) d_St_endsIn_17 (Nat.le_of_ble_eq_true rfl) [1, 2, 3, 0] rfl ?_
    exact (k18_1 c11)
  · refine ev_iconst (pc := 14) 0 d_St_endsIn_14 (by decide) ?_
    exact ev_ireturn (pc := 15) d_St_endsIn_15 rfl rfl (q15_2 c11)

set_option maxRecDepth 100000 in
set_option maxHeartbeats 4000000 in
theorem s_St_endsIn_18 {l : Launch} {X : ev_X} {bc bs n : Nat} {F : ev_H} {Q : Option Value → Nat → ev_H → Prop} {r0 : Nat} {r1 : Nat} {i2 : Int32} {i3 : Int32} {r1_i : Nat} {v20 : Int32} {ir0_length : Int32} {r0p1_f : Nat → Int32} {v36 : Int32} (h_r1 : ev_isS X r1 r1_i) (h_r0 : F r0 = some (.inr (1, [.ref (r0 + 1), .ref (r0 + 2), .int ir0_length]))) (h_r0p1 : F (r0 + 1) = some (.inl (3, 12, .inl r0p1_f)))
    (c20_0 : Cal l X M_Str_length 0 0 [.ref r1] n F (ev_pure (.int v20) n F))
    (q51_1 : (v20 ≤ i3) → Q (some (.int 1)) n F)
    (in33_2 : (¬ v20 ≤ i3) → vp_in (i2 + i3) 12)
    (c36_3 : (¬ v20 ≤ i3) → Cal l X M_Str_charAt 0 0 [.ref r1, .int i3] n F (ev_pure (.int v36) n F))
    (k18_4 : (¬ v20 ≤ i3) → ((r0p1_f (i2 + i3).toNatClampNeg) = v36) → Ev l X M_St_endsIn bc bs 18 [(0, .ref r0), (1, .ref r1), (2, .int i2), (3, .int (i3 + 1))] [] n F (ev_mq X Q))
    (q43_5 : (¬ v20 ≤ i3) → (¬ (r0p1_f (i2 + i3).toNatClampNeg) = v36) → Q (some (.int 0)) n F) :
    Ev l X M_St_endsIn bc bs 18 [(0, .ref r0), (1, .ref r1), (2, .int i2), (3, .int i3)] [] n F (ev_mq X Q) := by
  refine ev_iload_n (pc := 18) d_St_endsIn_18 rfl ?_
  refine ev_aload_n (pc := 19) d_St_endsIn_19 rfl ?_
  refine ev_invokevirtualS (pc := 20) (As := []) (st := [.int i3]) (Q2 := ev_pure (.int v20) n F) (bc1 := 0) (bs1 := 0) M_Str_length d_St_endsIn_20 lc_St_113 wd_261 wd_262 h_r1 rfl rfl (Nat.le_of_ble_eq_true rfl) (Nat.le_of_ble_eq_true rfl) (Nat.le_of_ble_eq_true rfl) (Nat.le_refl _) (Nat.le_refl _) c20_0 ?_
  refine ev_purek ?_
  refine ev_icmp_ge (pc := 23) 50 d_St_endsIn_23 (by decide) (fun c23 => ?_) (fun c23 => ?_)
  · refine ev_iconst (pc := 50) 1 d_St_endsIn_50 (by decide) ?_
    exact ev_ireturn (pc := 51) d_St_endsIn_51 rfl rfl (q51_1 c23)
  · refine ev_aload_n (pc := 26) d_St_endsIn_26 rfl ?_
    refine ev_getfield (pc := 27) 0 d_St_endsIn_27 fl_St_9 h_r0 rfl ?_
    refine ev_iload_n (pc := 30) d_St_endsIn_30 rfl ?_
    refine ev_iload_n (pc := 31) d_St_endsIn_31 rfl ?_
    refine ev_iadd (pc := 32) d_St_endsIn_32 ?_
    refine ev_caload (pc := 33) d_St_endsIn_33 h_r0p1 rfl (in33_2 c23) ?_
    refine ev_aload_n (pc := 34) d_St_endsIn_34 rfl ?_
    refine ev_iload_n (pc := 35) d_St_endsIn_35 rfl ?_
    refine ev_invokevirtualS (pc := 36) (As := [.int i3]) (st := [.int (r0p1_f (i2 + i3).toNatClampNeg)]) (Q2 := ev_pure (.int v36) n F) (bc1 := 0) (bs1 := 0) M_Str_charAt d_St_endsIn_36 lc_St_116 wd_343 wd_344 h_r1 rfl rfl (Nat.le_of_ble_eq_true rfl) (Nat.le_of_ble_eq_true rfl) (Nat.le_of_ble_eq_true rfl) (Nat.le_refl _) (Nat.le_refl _) (c36_3 c23) ?_
    refine ev_purek ?_
    refine ev_icmp_eq (pc := 39) 44 d_St_endsIn_39 (by decide) (fun c39 => ?_) (fun c39 => ?_)
    · refine ev_iinc (pc := 44) 3 1 d_St_endsIn_44 rfl (by decide) (Nat.le_of_ble_eq_true rfl) [1, 2, 3, 0] rfl ?_
      refine ev_goto (pc := 47) 18 d_St_endsIn_47 (by decide) ?_
      exact (k18_4 c23 c39)
    · refine ev_iconst (pc := 42) 0 d_St_endsIn_42 (by decide) ?_
      exact ev_ireturn (pc := 43) d_St_endsIn_43 rfl rfl (q43_5 c23 c39)
set_option maxRecDepth 100000 in
set_option maxHeartbeats 4000000 in
theorem s_St_dropPastOrGerund_0 {l : Launch} {X : ev_X} {bc bs n : Nat} {F : ev_H} {Q : Option Value → Nat → ev_H → Prop} {r0 : Nat} {ir0_length : Int32} {v3 : Int32} {v36 : Int32} {v49 : Int32} {v72 : Int32} {Q89 : Option Value → Nat → ev_H → Prop} {bc89 : Nat} {bs89 : Nat} {rc89 : Nat} {rs89 : Nat} {v72_2 : Int32} {Q89_2 : Option Value → Nat → ev_H → Prop} {bc89_2 : Nat} {bs89_2 : Nat} {rc89_2 : Nat} {rs89_2 : Nat} {v16 : Int32} (h_r0 : F r0 = some (.inr (1, [.ref (r0 + 1), .ref (r0 + 2), .int ir0_length]))) (hb_rc89 : rc89 + bc89 ≤ bc) (hs_rs89 : rs89 + bs89 ≤ bs) (hb_rc89_2 : rc89_2 + bc89_2 ≤ bc) (hs_rs89_2 : rs89_2 + bs89_2 ≤ bs)
    (c3_0 : Cal l X M_St_endsIn 0 0 [.ref r0, .ref (X.2.2.2.1 (10 + 5))] n F (ev_pure (.int v3) n F))
    (c36_1 : (v3 = 0) → Cal l X M_St_endsIn 0 0 [.ref r0, .ref (X.2.2.2.1 (10 + 6))] n F (ev_pure (.int v36) n F))
    (c49_2 : (v3 = 0) → (v36 = 0) → Cal l X M_St_endsIn 0 0 [.ref r0, .ref (X.2.2.2.1 (10 + 7))] n F (ev_pure (.int v49) n F))
    (q92_3 : (v3 = 0) → (v36 = 0) → (v49 = 0) → Q none n F)
    (c72_4 : (v3 = 0) → (v36 = 0) → (¬ v49 = 0) → Cal l X M_St_hasVowel 0 0 [.ref r0, .int (ir0_length - 3)] n F (ev_pure (.int v72) n F))
    (q92_5 : (v3 = 0) → (v36 = 0) → (¬ v49 = 0) → (v72 = 0) → Q none n F)
    (c89_6 : (v3 = 0) → (v36 = 0) → (¬ v49 = 0) → (¬ v72 = 0) → Cal l X M_St_mendEnd bc89 bs89 [.ref r0] n (ev_up F r0 (.inr (1, [.ref (r0 + 1), .ref (r0 + 2), .int (ir0_length - 3)]))) Q89)
    (k92_7 : (v3 = 0) → (v36 = 0) → (¬ v49 = 0) → (¬ v72 = 0) → ∀ v2 n2 F2, Q89 v2 n2 F2 → Ev l X M_St_dropPastOrGerund rc89 rs89 92 [(0, .ref r0), (1, .int 3)] (v2.toList ++ []) n2 F2 (ev_mq X Q))
    (c72_8 : (v3 = 0) → (¬ v36 = 0) → Cal l X M_St_hasVowel 0 0 [.ref r0, .int (ir0_length - 2)] n F (ev_pure (.int v72_2) n F))
    (q92_9 : (v3 = 0) → (¬ v36 = 0) → (v72_2 = 0) → Q none n F)
    (c89_10 : (v3 = 0) → (¬ v36 = 0) → (¬ v72_2 = 0) → Cal l X M_St_mendEnd bc89_2 bs89_2 [.ref r0] n (ev_up F r0 (.inr (1, [.ref (r0 + 1), .ref (r0 + 2), .int (ir0_length - 2)]))) Q89_2)
    (k92_11 : (v3 = 0) → (¬ v36 = 0) → (¬ v72_2 = 0) → ∀ v2 n2 F2, Q89_2 v2 n2 F2 → Ev l X M_St_dropPastOrGerund rc89_2 rs89_2 92 [(0, .ref r0), (1, .int 2)] (v2.toList ++ []) n2 F2 (ev_mq X Q))
    (c16_12 : (¬ v3 = 0) → Cal l X M_St_measure 0 0 [.ref r0, .int (ir0_length - 3)] n F (ev_pure (.int v16) n F))
    (q32_13 : (¬ v3 = 0) → (v16 ≤ 0) → Q none n F)
    (q32_14 : (¬ v3 = 0) → (¬ v16 ≤ 0) → Q none n (ev_up F r0 (.inr (1, [.ref (r0 + 1), .ref (r0 + 2), .int (ir0_length - 1)])))) :
    Ev l X M_St_dropPastOrGerund bc bs 0 [(0, .ref r0)] [] n F (ev_mq X Q) := by
  refine ev_aload_n (pc := 0) d_St_dropPastOrGerund_0 rfl ?_
  refine ev_ldcS (pc := 1) 5 d_St_dropPastOrGerund_1 (by decide) rfl rfl ?_
  refine ev_invokevirtual (pc := 3) (As := [.ref (X.2.2.2.1 (10 + 5))]) (st := []) (Q2 := ev_pure (.int v3) n F) (bc1 := 0) (bs1 := 0) M_St_endsIn rC1 d_St_dropPastOrGerund_3 lc_St_72 wd_339 wd_s3 rfl h_r0 rfl rfl (Nat.le_of_ble_eq_true rfl) (Nat.le_of_ble_eq_true rfl) (Nat.le_of_ble_eq_true rfl) (Nat.le_refl _) (Nat.le_refl _) c3_0 ?_
  refine ev_purek ?_
  refine ev_if_eq (pc := 6) 33 d_St_dropPastOrGerund_6 (by decide) (fun c6 => ?_) (fun c6 => ?_)
  · refine ev_aload_n (pc := 33) d_St_dropPastOrGerund_33 rfl ?_
    refine ev_ldcS (pc := 34) 6 d_St_dropPastOrGerund_34 (by decide) rfl rfl ?_
    refine ev_invokevirtual (pc := 36) (As := [.ref (X.2.2.2.1 (10 + 6))]) (st := []) (Q2 := ev_pure (.int v36) n F) (bc1 := 0) (bs1 := 0) M_St_endsIn rC1 d_St_dropPastOrGerund_36 lc_St_72 wd_339 wd_s3 rfl h_r0 rfl rfl (Nat.le_of_ble_eq_true rfl) (Nat.le_of_ble_eq_true rfl) (Nat.le_of_ble_eq_true rfl) (Nat.le_refl _) (Nat.le_refl _) (c36_1 c6) ?_
    refine ev_purek ?_
    refine ev_if_eq (pc := 39) 46 d_St_dropPastOrGerund_39 (by decide) (fun c39 => ?_) (fun c39 => ?_)
    · refine ev_aload_n (pc := 46) d_St_dropPastOrGerund_46 rfl ?_
      refine ev_ldcS (pc := 47) 7 d_St_dropPastOrGerund_47 (by decide) rfl rfl ?_
      refine ev_invokevirtual (pc := 49) (As := [.ref (X.2.2.2.1 (10 + 7))]) (st := []) (Q2 := ev_pure (.int v49) n F) (bc1 := 0) (bs1 := 0) M_St_endsIn rC1 d_St_dropPastOrGerund_49 lc_St_72 wd_339 wd_s3 rfl h_r0 rfl rfl (Nat.le_of_ble_eq_true rfl) (Nat.le_of_ble_eq_true rfl) (Nat.le_of_ble_eq_true rfl) (Nat.le_refl _) (Nat.le_refl _) (c49_2 c6 c39) ?_
      refine ev_purek ?_
      refine ev_if_eq (pc := 52) 59 d_St_dropPastOrGerund_52 (by decide) (fun c52 => ?_) (fun c52 => ?_)
      · refine ev_iconst (pc := 59) 0 d_St_dropPastOrGerund_59 (by decide) ?_
        refine ev_istore_n (pc := 60) d_St_dropPastOrGerund_60 (Nat.le_of_ble_eq_true rfl) [1, 0] rfl ?_
        refine ev_iload_n (pc := 61) d_St_dropPastOrGerund_61 rfl ?_
        refine ev_if_le (pc := 62) 92 d_St_dropPastOrGerund_62 (by decide) (fun _ => ?_) (fun c62 => absurd (by decide) c62)
        exact ev_return (pc := 92) d_St_dropPastOrGerund_92 rfl (q92_3 c6 c39 c52)
      · refine ev_iconst (pc := 55) 3 d_St_dropPastOrGerund_55 (by decide) ?_
        refine ev_goto (pc := 56) 60 d_St_dropPastOrGerund_56 (by decide) ?_
        refine ev_istore_n (pc := 60) d_St_dropPastOrGerund_60 (Nat.le_of_ble_eq_true rfl) [1, 0] rfl ?_
        refine ev_iload_n (pc := 61) d_St_dropPastOrGerund_61 rfl ?_
        refine ev_if_le (pc := 62) 92 d_St_dropPastOrGerund_62 (by decide) (fun c62 => absurd c62 (by decide)) (fun _ => ?_)
        refine ev_aload_n (pc := 65) d_St_dropPastOrGerund_65 rfl ?_
        refine ev_aload_n (pc := 66) d_St_dropPastOrGerund_66 rfl ?_
        refine ev_getfield (pc := 67) 2 d_St_dropPastOrGerund_67 fl_St_19 h_r0 rfl ?_
        refine ev_iload_n (pc := 70) d_St_dropPastOrGerund_70 rfl ?_
        refine ev_isub (pc := 71) d_St_dropPastOrGerund_71 ?_
        refine ev_invokevirtual (pc := 72) (As := [.int (ir0_length - 3)]) (st := []) (Q2 := ev_pure (.int v72) n F) (bc1 := 0) (bs1 := 0) M_St_hasVowel rC1 d_St_dropPastOrGerund_72 lc_St_91 wd_378 wd_s6 rfl h_r0 rfl rfl (Nat.le_of_ble_eq_true rfl) (Nat.le_of_ble_eq_true rfl) (Nat.le_of_ble_eq_true rfl) (Nat.le_refl _) (Nat.le_refl _) (c72_4 c6 c39 c52) ?_
        refine ev_purek ?_
        refine ev_if_eq (pc := 75) 92 d_St_dropPastOrGerund_75 (by decide) (fun c75 => ?_) (fun c75 => ?_)
        · exact ev_return (pc := 92) d_St_dropPastOrGerund_92 rfl (q92_5 c6 c39 c52 c75)
        · refine ev_aload_n (pc := 78) d_St_dropPastOrGerund_78 rfl ?_
          refine ev_dup (pc := 79) d_St_dropPastOrGerund_79 rfl ?_
          refine ev_getfield (pc := 80) 2 d_St_dropPastOrGerund_80 fl_St_19 h_r0 rfl ?_
          refine ev_iload_n (pc := 83) d_St_dropPastOrGerund_83 rfl ?_
          refine ev_isub (pc := 84) d_St_dropPastOrGerund_84 ?_
          refine ev_putfield (pc := 85) 2 _ d_St_dropPastOrGerund_85 fl_St_19 h_r0 pf_1_length rfl rfl (Nat.le_of_ble_eq_true rfl) (fun F1_ hF1_ => ?_)
          have g2_ : F1_ r0 = some (.inr (1, [.ref (r0 + 1), .ref (r0 + 2), .int (ir0_length - 3)])) := by rw [← hF1_]; exact ev_up_s
          refine ev_aload_n (pc := 88) d_St_dropPastOrGerund_88 rfl ?_
          exact ev_invokevirtual (pc := 89) (As := []) (st := []) (Q2 := Q89) M_St_mendEnd rC1 d_St_dropPastOrGerund_89 lc_St_95 wd_382 wd_s7 rfl g2_ rfl rfl (Nat.le_of_ble_eq_true rfl) (Nat.le_of_ble_eq_true rfl) (Nat.le_of_ble_eq_true rfl) hb_rc89 hs_rs89 (by subst hF1_; exact (c89_6 c6 c39 c52 c75)) (k92_7 c6 c39 c52 c75)
    · refine ev_iconst (pc := 42) 2 d_St_dropPastOrGerund_42 (by decide) ?_
      refine ev_goto (pc := 43) 60 d_St_dropPastOrGerund_43 (by decide) ?_
      refine ev_istore_n (pc := 60) d_St_dropPastOrGerund_60 (Nat.le_of_ble_eq_true rfl) [1, 0] rfl ?_
      refine ev_iload_n (pc := 61) d_St_dropPastOrGerund_61 rfl ?_
      refine ev_if_le (pc := 62) 92 d_St_dropPastOrGerund_62 (by decide) (fun c62 => absurd c62 (by decide)) (fun _ => ?_)
      refine ev_aload_n (pc := 65) d_St_dropPastOrGerund_65 rfl ?_
      refine ev_aload_n (pc := 66) d_St_dropPastOrGerund_66 rfl ?_
      refine ev_getfield (pc := 67) 2 d_St_dropPastOrGerund_67 fl_St_19 h_r0 rfl ?_
      refine ev_iload_n (pc := 70) d_St_dropPastOrGerund_70 rfl ?_
      refine ev_isub (pc := 71) d_St_dropPastOrGerund_71 ?_
      refine ev_invokevirtual (pc := 72) (As := [.int (ir0_length - 2)]) (st := []) (Q2 := ev_pure (.int v72_2) n F) (bc1 := 0) (bs1 := 0) M_St_hasVowel rC1 d_St_dropPastOrGerund_72 lc_St_91 wd_378 wd_s6 rfl h_r0 rfl rfl (Nat.le_of_ble_eq_true rfl) (Nat.le_of_ble_eq_true rfl) (Nat.le_of_ble_eq_true rfl) (Nat.le_refl _) (Nat.le_refl _) (c72_8 c6 c39) ?_
      refine ev_purek ?_
      refine ev_if_eq (pc := 75) 92 d_St_dropPastOrGerund_75 (by decide) (fun c75 => ?_) (fun c75 => ?_)
      · exact ev_return (pc := 92) d_St_dropPastOrGerund_92 rfl (q92_9 c6 c39 c75)
      · refine ev_aload_n (pc := 78) d_St_dropPastOrGerund_78 rfl ?_
        refine ev_dup (pc := 79) d_St_dropPastOrGerund_79 rfl ?_
        refine ev_getfield (pc := 80) 2 d_St_dropPastOrGerund_80 fl_St_19 h_r0 rfl ?_
        refine ev_iload_n (pc := 83) d_St_dropPastOrGerund_83 rfl ?_
        refine ev_isub (pc := 84) d_St_dropPastOrGerund_84 ?_
        refine ev_putfield (pc := 85) 2 _ d_St_dropPastOrGerund_85 fl_St_19 h_r0 pf_1_length rfl rfl (Nat.le_of_ble_eq_true rfl) (fun F3_ hF3_ => ?_)
        have g4_ : F3_ r0 = some (.inr (1, [.ref (r0 + 1), .ref (r0 + 2), .int (ir0_length - 2)])) := by rw [← hF3_]; exact ev_up_s
        refine ev_aload_n (pc := 88) d_St_dropPastOrGerund_88 rfl ?_
        exact ev_invokevirtual (pc := 89) (As := []) (st := []) (Q2 := Q89_2) M_St_mendEnd rC1 d_St_dropPastOrGerund_89 lc_St_95 wd_382 wd_s7 rfl g4_ rfl rfl (Nat.le_of_ble_eq_true rfl) (Nat.le_of_ble_eq_true rfl) (Nat.le_of_ble_eq_true rfl) hb_rc89_2 hs_rs89_2 (by subst hF3_; exact (c89_10 c6 c39 c75)) (k92_11 c6 c39 c75)
  · refine ev_aload_n (pc := 9) d_St_dropPastOrGerund_9 rfl ?_
    refine ev_aload_n (pc := 10) d_St_dropPastOrGerund_10 rfl ?_
    refine ev_getfield (pc := 11) 2 d_St_dropPastOrGerund_11 fl_St_19 h_r0 rfl ?_
    refine ev_iconst (pc := 14) 3 d_St_dropPastOrGerund_14 (by decide) ?_
    refine ev_isub (pc := 15) d_St_dropPastOrGerund_15 ?_
    refine ev_invokevirtual (pc := 16) (As := [.int (ir0_length - 3)]) (st := []) (Q2 := ev_pure (.int v16) n F) (bc1 := 0) (bs1 := 0) M_St_measure rC1 d_St_dropPastOrGerund_16 lc_St_84 wd_372 wd_s5 rfl h_r0 rfl rfl (Nat.le_of_ble_eq_true rfl) (Nat.le_of_ble_eq_true rfl) (Nat.le_of_ble_eq_true rfl) (Nat.le_refl _) (Nat.le_refl _) (c16_12 c6) ?_
    refine ev_purek ?_
    refine ev_if_le (pc := 19) 32 d_St_dropPastOrGerund_19 (by decide) (fun c19 => ?_) (fun c19 => ?_)
    · exact ev_return (pc := 32) d_St_dropPastOrGerund_32 rfl (q32_13 c6 c19)
    · refine ev_aload_n (pc := 22) d_St_dropPastOrGerund_22 rfl ?_
      refine ev_dup (pc := 23) d_St_dropPastOrGerund_23 rfl ?_
      refine ev_getfield (pc := 24) 2 d_St_dropPastOrGerund_24 fl_St_19 h_r0 rfl ?_
      refine ev_iconst (pc := 27) 1 d_St_dropPastOrGerund_27 (by decide) ?_
      refine ev_isub (pc := 28) d_St_dropPastOrGerund_28 ?_
      refine ev_putfield (pc := 29) 2 _ d_St_dropPastOrGerund_29 fl_St_19 h_r0 pf_1_length rfl rfl (Nat.le_of_ble_eq_true rfl) (fun F5_ hF5_ => ?_)
      have g6_ : F5_ r0 = some (.inr (1, [.ref (r0 + 1), .ref (r0 + 2), .int (ir0_length - 1)])) := by rw [← hF5_]; exact ev_up_s
      exact ev_return (pc := 32) d_St_dropPastOrGerund_32 rfl (by subst hF5_; exact (q32_14 c6 c19))

set_option maxRecDepth 100000 in
set_option maxHeartbeats 4000000 in
theorem s_St_dropPastOrGerund_92 {l : Launch} {X : ev_X} {bc bs n : Nat} {F : ev_H} {Q : Option Value → Nat → ev_H → Prop} {r0 : Nat} {i1 : Int32} 
    (q92_0 : Q none n F) :
    Ev l X M_St_dropPastOrGerund bc bs 92 [(0, .ref r0), (1, .int i1)] [] n F (ev_mq X Q) := by
  exact ev_return (pc := 92) d_St_dropPastOrGerund_92 rfl q92_0
set_option maxRecDepth 100000 in
set_option maxHeartbeats 4000000 in
theorem s_St_measure_0 {l : Launch} {X : ev_X} {bc bs n : Nat} {F : ev_H} {Q : Option Value → Nat → ev_H → Prop} {r0 : Nat} {i1 : Int32} 
    (k4_0 : Ev l X M_St_measure bc bs 4 [(0, .ref r0), (1, .int i1), (2, .int 0), (3, .int 0)] [] n F (ev_mq X Q)) :
    Ev l X M_St_measure bc bs 0 [(0, .ref r0), (1, .int i1)] [] n F (ev_mq X Q) := by
  refine ev_iconst (pc := 0) 0 d_St_measure_0 (by decide) ?_
  refine ev_istore_n (pc := 1) d_St_measure_1 (Nat.le_of_ble_eq_true rfl) [1, 2, 0] rfl ?_
  refine ev_iconst (pc := 2) 0 d_St_measure_2 (by decide) ?_
  refine ev_istore_n (pc := 3) d_St_measure_3 (Nat.le_of_ble_eq_true rfl) [1, 2, 3, 0] rfl ?_
  exact k4_0

set_option maxRecDepth 100000 in
set_option maxHeartbeats 4000000 in
theorem s_St_measure_4 {l : Launch} {X : ev_X} {bc bs n : Nat} {F : ev_H} {Q : Option Value → Nat → ev_H → Prop} {r0 : Nat} {i1 : Int32} {i2 : Int32} {i3 : Int32} {ir0_length : Int32} {r0p2_f : Nat → Int32} (h_r0 : F r0 = some (.inr (1, [.ref (r0 + 1), .ref (r0 + 2), .int ir0_length]))) (h_r0p2 : F (r0 + 2) = some (.inl (2, 12, .inl r0p2_f)))
    (q41_0 : (i1 ≤ (i3 + 1)) → Q (some (.int i2)) n F)
    (in16_1 : (¬ i1 ≤ (i3 + 1)) → vp_in i3 12)
    (k4_2 : (¬ i1 ≤ (i3 + 1)) → ((r0p2_f i3.toNatClampNeg) = 0) → Ev l X M_St_measure bc bs 4 [(0, .ref r0), (1, .int i1), (2, .int i2), (3, .int (i3 + 1))] [] n F (ev_mq X Q))
    (in27_3 : (¬ i1 ≤ (i3 + 1)) → (¬ (r0p2_f i3.toNatClampNeg) = 0) → vp_in (i3 + 1) 12)
    (k4_4 : (¬ i1 ≤ (i3 + 1)) → (¬ (r0p2_f i3.toNatClampNeg) = 0) → (¬ (r0p2_f (i3 + 1).toNatClampNeg) = 0) → Ev l X M_St_measure bc bs 4 [(0, .ref r0), (1, .int i1), (2, .int i2), (3, .int (i3 + 1))] [] n F (ev_mq X Q))
    (k4_5 : (¬ i1 ≤ (i3 + 1)) → (¬ (r0p2_f i3.toNatClampNeg) = 0) → ((r0p2_f (i3 + 1).toNatClampNeg) = 0) → Ev l X M_St_measure bc bs 4 [(0, .ref r0), (1, .int i1), (2, .int (i2 + 1)), (3, .int (i3 + 1))] [] n F (ev_mq X Q)) :
    Ev l X M_St_measure bc bs 4 [(0, .ref r0), (1, .int i1), (2, .int i2), (3, .int i3)] [] n F (ev_mq X Q) := by
  refine ev_iload_n (pc := 4) d_St_measure_4 rfl ?_
  refine ev_iconst (pc := 5) 1 d_St_measure_5 (by decide) ?_
  refine ev_iadd (pc := 6) d_St_measure_6 ?_
  refine ev_iload_n (pc := 7) d_St_measure_7 rfl ?_
  refine ev_icmp_ge (pc := 8) 40 d_St_measure_8 (by decide) (fun c8 => ?_) (fun c8 => ?_)
  · refine ev_iload_n (pc := 40) d_St_measure_40 rfl ?_
    exact ev_ireturn (pc := 41) d_St_measure_41 rfl rfl (q41_0 c8)
  · refine ev_aload_n (pc := 11) d_St_measure_11 rfl ?_
    refine ev_getfield (pc := 12) 1 d_St_measure_12 fl_St_15 h_r0 rfl ?_
    refine ev_iload_n (pc := 15) d_St_measure_15 rfl ?_
    refine ev_zaload (pc := 16) d_St_measure_16 h_r0p2 rfl (in16_1 c8) ?_
    refine ev_if_eq (pc := 17) 34 d_St_measure_17 (by decide) (fun c17 => ?_) (fun c17 => ?_)
    · refine ev_iinc (pc := 34) 3 1 d_St_measure_34 rfl (by decide) (Nat.le_of_ble_eq_true rfl) [1, 2, 3, 0] rfl ?_
      refine ev_goto (pc := 37) 4 d_St_measure_37 (by decide) ?_
      exact (k4_2 c8 c17)
    · refine ev_aload_n (pc := 20) d_St_measure_20 rfl ?_
      refine ev_getfield (pc := 21) 1 d_St_measure_21 fl_St_15 h_r0 rfl ?_
      refine ev_iload_n (pc := 24) d_St_measure_24 rfl ?_
      refine ev_iconst (pc := 25) 1 d_St_measure_25 (by decide) ?_
      refine ev_iadd (pc := 26) d_St_measure_26 ?_
      refine ev_zaload (pc := 27) d_St_measure_27 h_r0p2 rfl (in27_3 c8 c17) ?_
      refine ev_if_ne (pc := 28) 34 d_St_measure_28 (by decide) (fun c28 => ?_) (fun c28 => ?_)
      · refine ev_iinc (pc := 34) 3 1 d_St_measure_34 rfl (by decide) (Nat.le_of_ble_eq_true rfl) [1, 2, 3, 0] rfl ?_
        refine ev_goto (pc := 37) 4 d_St_measure_37 (by decide) ?_
        exact (k4_4 c8 c17 c28)
      · refine ev_iinc (pc := 31) 2 1 d_St_measure_31 rfl (by decide) (Nat.le_of_ble_eq_true rfl) [1, 2, 0, 3] rfl ?_
        refine ev_iinc (pc := 34) 3 1 d_St_measure_34 rfl (by decide) (Nat.le_of_ble_eq_true rfl) [1, 2, 3, 0] rfl ?_
        refine ev_goto (pc := 37) 4 d_St_measure_37 (by decide) ?_
        exact (k4_5 c8 c17 c28)
set_option maxRecDepth 100000 in
set_option maxHeartbeats 4000000 in
theorem s_St_hasVowel_0 {l : Launch} {X : ev_X} {bc bs n : Nat} {F : ev_H} {Q : Option Value → Nat → ev_H → Prop} {r0 : Nat} {i1 : Int32} 
    (k2_0 : Ev l X M_St_hasVowel bc bs 2 [(0, .ref r0), (1, .int i1), (2, .int 0)] [] n F (ev_mq X Q)) :
    Ev l X M_St_hasVowel bc bs 0 [(0, .ref r0), (1, .int i1)] [] n F (ev_mq X Q) := by
  refine ev_iconst (pc := 0) 0 d_St_hasVowel_0 (by decide) ?_
  refine ev_istore_n (pc := 1) d_St_hasVowel_1 (Nat.le_of_ble_eq_true rfl) [1, 2, 0] rfl ?_
  exact k2_0

set_option maxRecDepth 100000 in
set_option maxHeartbeats 4000000 in
theorem s_St_hasVowel_2 {l : Launch} {X : ev_X} {bc bs n : Nat} {F : ev_H} {Q : Option Value → Nat → ev_H → Prop} {r0 : Nat} {i1 : Int32} {i2 : Int32} {ir0_length : Int32} {r0p2_f : Nat → Int32} (h_r0 : F r0 = some (.inr (1, [.ref (r0 + 1), .ref (r0 + 2), .int ir0_length]))) (h_r0p2 : F (r0 + 2) = some (.inl (2, 12, .inl r0p2_f)))
    (q25_0 : (i1 ≤ i2) → Q (some (.int 0)) n F)
    (in12_1 : (¬ i1 ≤ i2) → vp_in i2 12)
    (k2_2 : (¬ i1 ≤ i2) → ((r0p2_f i2.toNatClampNeg) = 0) → Ev l X M_St_hasVowel bc bs 2 [(0, .ref r0), (1, .int i1), (2, .int (i2 + 1))] [] n F (ev_mq X Q))
    (q17_3 : (¬ i1 ≤ i2) → (¬ (r0p2_f i2.toNatClampNeg) = 0) → Q (some (.int 1)) n F) :
    Ev l X M_St_hasVowel bc bs 2 [(0, .ref r0), (1, .int i1), (2, .int i2)] [] n F (ev_mq X Q) := by
  refine ev_iload_n (pc := 2) d_St_hasVowel_2 rfl ?_
  refine ev_iload_n (pc := 3) d_St_hasVowel_3 rfl ?_
  refine ev_icmp_ge (pc := 4) 24 d_St_hasVowel_4 (by decide) (fun c4 => ?_) (fun c4 => ?_)
  · refine ev_iconst (pc := 24) 0 d_St_hasVowel_24 (by decide) ?_
    exact ev_ireturn (pc := 25) d_St_hasVowel_25 rfl rfl (q25_0 c4)
  · refine ev_aload_n (pc := 7) d_St_hasVowel_7 rfl ?_
    refine ev_getfield (pc := 8) 1 d_St_hasVowel_8 fl_St_15 h_r0 rfl ?_
    refine ev_iload_n (pc := 11) d_St_hasVowel_11 rfl ?_
    refine ev_zaload (pc := 12) d_St_hasVowel_12 h_r0p2 rfl (in12_1 c4) ?_
    refine ev_if_eq (pc := 13) 18 d_St_hasVowel_13 (by decide) (fun c13 => ?_) (fun c13 => ?_)
    · refine ev_iinc (pc := 18) 2 1 d_St_hasVowel_18 rfl (by decide) (Nat.le_of_ble_eq_true rfl) [1, 2, 0] rfl ?_
      refine ev_goto (pc := 21) 2 d_St_hasVowel_21 (by decide) ?_
      exact (k2_2 c4 c13)
    · refine ev_iconst (pc := 16) 1 d_St_hasVowel_16 (by decide) ?_
      exact ev_ireturn (pc := 17) d_St_hasVowel_17 rfl rfl (q17_3 c4 c13)
set_option maxRecDepth 100000 in
set_option maxHeartbeats 4000000 in
theorem s_St_mendEnd_0 {l : Launch} {X : ev_X} {bc bs n : Nat} {F : ev_H} {Q : Option Value → Nat → ev_H → Prop} {r0 : Nat} {ir0_length : Int32} {v3 : Int32} {Q30 : Option Value → Nat → ev_H → Prop} {bc30 : Nat} {bs30 : Nat} {rc30 : Nat} {rs30 : Nat} {v12 : Int32} {Q30_2 : Option Value → Nat → ev_H → Prop} {bc30_2 : Nat} {bs30_2 : Nat} {rc30_2 : Nat} {rs30_2 : Nat} {v21 : Int32} {v37 : Int32} {v61 : Int32} {v69 : Int32} {Q78 : Option Value → Nat → ev_H → Prop} {bc78 : Nat} {bs78 : Nat} {rc78 : Nat} {rs78 : Nat} {Q30_3 : Option Value → Nat → ev_H → Prop} {bc30_3 : Nat} {bs30_3 : Nat} {rc30_3 : Nat} {rs30_3 : Nat} (h_r0 : F r0 = some (.inr (1, [.ref (r0 + 1), .ref (r0 + 2), .int ir0_length]))) (hb_rc30 : rc30 + bc30 ≤ bc) (hs_rs30 : rs30 + bs30 ≤ bs) (hb_rc30_2 : rc30_2 + bc30_2 ≤ bc) (hs_rs30_2 : rs30_2 + bs30_2 ≤ bs) (hb_rc78 : rc78 + bc78 ≤ bc) (hs_rs78 : rs78 + bs78 ≤ bs) (hb_rc30_3 : rc30_3 + bc30_3 ≤ bc) (hs_rs30_3 : rs30_3 + bs30_3 ≤ bs)
    (c3_0 : Cal l X M_St_endsIn 0 0 [.ref r0, .ref (X.2.2.2.1 (10 + 8))] n F (ev_pure (.int v3) n F))
    (c30_1 : (¬ v3 = 0) → Cal l X M_St_append bc30 bs30 [.ref r0, .int 101] n F Q30)
    (k33_2 : (¬ v3 = 0) → ∀ v2 n2 F2, Q30 v2 n2 F2 → Ev l X M_St_mendEnd rc30 rs30 33 [(0, .ref r0)] (v2.toList ++ []) n2 F2 (ev_mq X Q))
    (c12_3 : (v3 = 0) → Cal l X M_St_endsIn 0 0 [.ref r0, .ref (X.2.2.2.1 (10 + 9))] n F (ev_pure (.int v12) n F))
    (c30_4 : (v3 = 0) → (¬ v12 = 0) → Cal l X M_St_append bc30_2 bs30_2 [.ref r0, .int 101] n F Q30_2)
    (k33_5 : (v3 = 0) → (¬ v12 = 0) → ∀ v2 n2 F2, Q30_2 v2 n2 F2 → Ev l X M_St_mendEnd rc30_2 rs30_2 33 [(0, .ref r0)] (v2.toList ++ []) n2 F2 (ev_mq X Q))
    (c21_6 : (v3 = 0) → (v12 = 0) → Cal l X M_St_endsIn 0 0 [.ref r0, .ref (X.2.2.2.1 (10 + 10))] n F (ev_pure (.int v21) n F))
    (c37_7 : (v3 = 0) → (v12 = 0) → (v21 = 0) → Cal l X M_St_endsInDouble 0 0 [.ref r0] n F (ev_pure (.int v37) n F))
    (c61_8 : (v3 = 0) → (v12 = 0) → (v21 = 0) → (v37 = 0) → Cal l X M_St_measure 0 0 [.ref r0, .int ir0_length] n F (ev_pure (.int v61) n F))
    (q81_9 : (v3 = 0) → (v12 = 0) → (v21 = 0) → (v37 = 0) → (¬ v61 = 1) → Q none n F)
    (c69_10 : (v3 = 0) → (v12 = 0) → (v21 = 0) → (v37 = 0) → (v61 = 1) → Cal l X M_St_endsShort 0 0 [.ref r0] n F (ev_pure (.int v69) n F))
    (q81_11 : (v3 = 0) → (v12 = 0) → (v21 = 0) → (v37 = 0) → (v61 = 1) → (v69 = 0) → Q none n F)
    (c78_12 : (v3 = 0) → (v12 = 0) → (v21 = 0) → (v37 = 0) → (v61 = 1) → (¬ v69 = 0) → Cal l X M_St_append bc78 bs78 [.ref r0, .int 101] n F Q78)
    (k81_13 : (v3 = 0) → (v12 = 0) → (v21 = 0) → (v37 = 0) → (v61 = 1) → (¬ v69 = 0) → ∀ v2 n2 F2, Q78 v2 n2 F2 → Ev l X M_St_mendEnd rc78 rs78 81 [(0, .ref r0)] (v2.toList ++ []) n2 F2 (ev_mq X Q))
    (q81_14 : (v3 = 0) → (v12 = 0) → (v21 = 0) → (¬ v37 = 0) → Q none n (ev_up F r0 (.inr (1, [.ref (r0 + 1), .ref (r0 + 2), .int (ir0_length - 1)]))))
    (c30_15 : (v3 = 0) → (v12 = 0) → (¬ v21 = 0) → Cal l X M_St_append bc30_3 bs30_3 [.ref r0, .int 101] n F Q30_3)
    (k33_16 : (v3 = 0) → (v12 = 0) → (¬ v21 = 0) → ∀ v2 n2 F2, Q30_3 v2 n2 F2 → Ev l X M_St_mendEnd rc30_3 rs30_3 33 [(0, .ref r0)] (v2.toList ++ []) n2 F2 (ev_mq X Q)) :
    Ev l X M_St_mendEnd bc bs 0 [(0, .ref r0)] [] n F (ev_mq X Q) := by
  refine ev_aload_n (pc := 0) d_St_mendEnd_0 rfl ?_
  refine ev_ldcS (pc := 1) 8 d_St_mendEnd_1 (by decide) rfl rfl ?_
  refine ev_invokevirtual (pc := 3) (As := [.ref (X.2.2.2.1 (10 + 8))]) (st := []) (Q2 := ev_pure (.int v3) n F) (bc1 := 0) (bs1 := 0) M_St_endsIn rC1 d_St_mendEnd_3 lc_St_72 wd_339 wd_s3 rfl h_r0 rfl rfl (Nat.le_of_ble_eq_true rfl) (Nat.le_of_ble_eq_true rfl) (Nat.le_of_ble_eq_true rfl) (Nat.le_refl _) (Nat.le_refl _) c3_0 ?_
  refine ev_purek ?_
  refine ev_if_ne (pc := 6) 27 d_St_mendEnd_6 (by decide) (fun c6 => ?_) (fun c6 => ?_)
  · refine ev_aload_n (pc := 27) d_St_mendEnd_27 rfl ?_
    refine ev_bipush (pc := 28) 101 d_St_mendEnd_28 (by decide) ?_
    exact ev_invokevirtual (pc := 30) (As := [.int 101]) (st := []) (Q2 := Q30) M_St_append rC1 d_St_mendEnd_30 lc_St_58 wd_243 wd_s1 rfl h_r0 rfl rfl (Nat.le_of_ble_eq_true rfl) (Nat.le_of_ble_eq_true rfl) (Nat.le_of_ble_eq_true rfl) hb_rc30 hs_rs30 (c30_1 c6) (k33_2 c6)
  · refine ev_aload_n (pc := 9) d_St_mendEnd_9 rfl ?_
    refine ev_ldcS (pc := 10) 9 d_St_mendEnd_10 (by decide) rfl rfl ?_
    refine ev_invokevirtual (pc := 12) (As := [.ref (X.2.2.2.1 (10 + 9))]) (st := []) (Q2 := ev_pure (.int v12) n F) (bc1 := 0) (bs1 := 0) M_St_endsIn rC1 d_St_mendEnd_12 lc_St_72 wd_339 wd_s3 rfl h_r0 rfl rfl (Nat.le_of_ble_eq_true rfl) (Nat.le_of_ble_eq_true rfl) (Nat.le_of_ble_eq_true rfl) (Nat.le_refl _) (Nat.le_refl _) (c12_3 c6) ?_
    refine ev_purek ?_
    refine ev_if_ne (pc := 15) 27 d_St_mendEnd_15 (by decide) (fun c15 => ?_) (fun c15 => ?_)
    · refine ev_aload_n (pc := 27) d_St_mendEnd_27 rfl ?_
      refine ev_bipush (pc := 28) 101 d_St_mendEnd_28 (by decide) ?_
      exact ev_invokevirtual (pc := 30) (As := [.int 101]) (st := []) (Q2 := Q30_2) M_St_append rC1 d_St_mendEnd_30 lc_St_58 wd_243 wd_s1 rfl h_r0 rfl rfl (Nat.le_of_ble_eq_true rfl) (Nat.le_of_ble_eq_true rfl) (Nat.le_of_ble_eq_true rfl) hb_rc30_2 hs_rs30_2 (c30_4 c6 c15) (k33_5 c6 c15)
    · refine ev_aload_n (pc := 18) d_St_mendEnd_18 rfl ?_
      refine ev_ldcS (pc := 19) 10 d_St_mendEnd_19 (by decide) rfl rfl ?_
      refine ev_invokevirtual (pc := 21) (As := [.ref (X.2.2.2.1 (10 + 10))]) (st := []) (Q2 := ev_pure (.int v21) n F) (bc1 := 0) (bs1 := 0) M_St_endsIn rC1 d_St_mendEnd_21 lc_St_72 wd_339 wd_s3 rfl h_r0 rfl rfl (Nat.le_of_ble_eq_true rfl) (Nat.le_of_ble_eq_true rfl) (Nat.le_of_ble_eq_true rfl) (Nat.le_refl _) (Nat.le_refl _) (c21_6 c6 c15) ?_
      refine ev_purek ?_
      refine ev_if_eq (pc := 24) 36 d_St_mendEnd_24 (by decide) (fun c24 => ?_) (fun c24 => ?_)
      · refine ev_aload_n (pc := 36) d_St_mendEnd_36 rfl ?_
        refine ev_invokevirtual (pc := 37) (As := []) (st := []) (Q2 := ev_pure (.int v37) n F) (bc1 := 0) (bs1 := 0) M_St_endsInDouble rC1 d_St_mendEnd_37 lc_St_104 wd_389 wd_s8 rfl h_r0 rfl rfl (Nat.le_of_ble_eq_true rfl) (Nat.le_of_ble_eq_true rfl) (Nat.le_of_ble_eq_true rfl) (Nat.le_refl _) (Nat.le_refl _) (c37_7 c6 c15 c24) ?_
        refine ev_purek ?_
        refine ev_if_eq (pc := 40) 56 d_St_mendEnd_40 (by decide) (fun c40 => ?_) (fun c40 => ?_)
        · refine ev_aload_n (pc := 56) d_St_mendEnd_56 rfl ?_
          refine ev_aload_n (pc := 57) d_St_mendEnd_57 rfl ?_
          refine ev_getfield (pc := 58) 2 d_St_mendEnd_58 fl_St_19 h_r0 rfl ?_
          refine ev_invokevirtual (pc := 61) (As := [.int ir0_length]) (st := []) (Q2 := ev_pure (.int v61) n F) (bc1 := 0) (bs1 := 0) M_St_measure rC1 d_St_mendEnd_61 lc_St_84 wd_372 wd_s5 rfl h_r0 rfl rfl (Nat.le_of_ble_eq_true rfl) (Nat.le_of_ble_eq_true rfl) (Nat.le_of_ble_eq_true rfl) (Nat.le_refl _) (Nat.le_refl _) (c61_8 c6 c15 c24 c40) ?_
          refine ev_purek ?_
          refine ev_iconst (pc := 64) 1 d_St_mendEnd_64 (by decide) ?_
          refine ev_icmp_ne (pc := 65) 81 d_St_mendEnd_65 (by decide) (fun c65 => ?_) (fun c65 => ?_)
          · exact ev_return (pc := 81) d_St_mendEnd_81 rfl (q81_9 c6 c15 c24 c40 c65)
          · refine ev_aload_n (pc := 68) d_St_mendEnd_68 rfl ?_
            refine ev_invokevirtual (pc := 69) (As := []) (st := []) (Q2 := ev_pure (.int v69) n F) (bc1 := 0) (bs1 := 0) M_St_endsShort rC1 d_St_mendEnd_69 lc_St_108 wd_394 wd_s9 rfl h_r0 rfl rfl (Nat.le_of_ble_eq_true rfl) (Nat.le_of_ble_eq_true rfl) (Nat.le_of_ble_eq_true rfl) (Nat.le_refl _) (Nat.le_refl _) (c69_10 c6 c15 c24 c40 c65) ?_
            refine ev_purek ?_
            refine ev_if_eq (pc := 72) 81 d_St_mendEnd_72 (by decide) (fun c72 => ?_) (fun c72 => ?_)
            · exact ev_return (pc := 81) d_St_mendEnd_81 rfl (q81_11 c6 c15 c24 c40 c65 c72)
            · refine ev_aload_n (pc := 75) d_St_mendEnd_75 rfl ?_
              refine ev_bipush (pc := 76) 101 d_St_mendEnd_76 (by decide) ?_
              exact ev_invokevirtual (pc := 78) (As := [.int 101]) (st := []) (Q2 := Q78) M_St_append rC1 d_St_mendEnd_78 lc_St_58 wd_243 wd_s1 rfl h_r0 rfl rfl (Nat.le_of_ble_eq_true rfl) (Nat.le_of_ble_eq_true rfl) (Nat.le_of_ble_eq_true rfl) hb_rc78 hs_rs78 (c78_12 c6 c15 c24 c40 c65 c72) (k81_13 c6 c15 c24 c40 c65 c72)
        · refine ev_aload_n (pc := 43) d_St_mendEnd_43 rfl ?_
          refine ev_dup (pc := 44) d_St_mendEnd_44 rfl ?_
          refine ev_getfield (pc := 45) 2 d_St_mendEnd_45 fl_St_19 h_r0 rfl ?_
          refine ev_iconst (pc := 48) 1 d_St_mendEnd_48 (by decide) ?_
          refine ev_isub (pc := 49) d_St_mendEnd_49 ?_
          refine ev_putfield (pc := 50) 2 _ d_St_mendEnd_50 fl_St_19 h_r0 pf_1_length rfl rfl (Nat.le_of_ble_eq_true rfl) (fun F1_ hF1_ => ?_)
          have g2_ : F1_ r0 = some (.inr (1, [.ref (r0 + 1), .ref (r0 + 2), .int (ir0_length - 1)])) := by rw [← hF1_]; exact ev_up_s
          refine ev_goto (pc := 53) 81 d_St_mendEnd_53 (by decide) ?_
          exact ev_return (pc := 81) d_St_mendEnd_81 rfl (by subst hF1_; exact (q81_14 c6 c15 c24 c40))
      · refine ev_aload_n (pc := 27) d_St_mendEnd_27 rfl ?_
        refine ev_bipush (pc := 28) 101 d_St_mendEnd_28 (by decide) ?_
        exact ev_invokevirtual (pc := 30) (As := [.int 101]) (st := []) (Q2 := Q30_3) M_St_append rC1 d_St_mendEnd_30 lc_St_58 wd_243 wd_s1 rfl h_r0 rfl rfl (Nat.le_of_ble_eq_true rfl) (Nat.le_of_ble_eq_true rfl) (Nat.le_of_ble_eq_true rfl) hb_rc30_3 hs_rs30_3 (c30_15 c6 c15 c24) (k33_16 c6 c15 c24)

set_option maxRecDepth 100000 in
set_option maxHeartbeats 4000000 in
theorem s_St_mendEnd_33 {l : Launch} {X : ev_X} {bc bs n : Nat} {F : ev_H} {Q : Option Value → Nat → ev_H → Prop} {r0 : Nat} 
    (q81_0 : Q none n F) :
    Ev l X M_St_mendEnd bc bs 33 [(0, .ref r0)] [] n F (ev_mq X Q) := by
  refine ev_goto (pc := 33) 81 d_St_mendEnd_33 (by decide) ?_
  exact ev_return (pc := 81) d_St_mendEnd_81 rfl q81_0

set_option maxRecDepth 100000 in
set_option maxHeartbeats 4000000 in
theorem s_St_mendEnd_81 {l : Launch} {X : ev_X} {bc bs n : Nat} {F : ev_H} {Q : Option Value → Nat → ev_H → Prop} {r0 : Nat} 
    (q81_0 : Q none n F) :
    Ev l X M_St_mendEnd bc bs 81 [(0, .ref r0)] [] n F (ev_mq X Q) := by
  exact ev_return (pc := 81) d_St_mendEnd_81 rfl q81_0
set_option maxRecDepth 100000 in
set_option maxHeartbeats 4000000 in
theorem s_St_endsInDouble_0 {l : Launch} {X : ev_X} {bc bs n : Nat} {F : ev_H} {Q : Option Value → Nat → ev_H → Prop} {r0 : Nat} {ir0_length : Int32} {r0p2_f : Nat → Int32} {r0p1_f : Nat → Int32} {v68 : Int32} (h_r0 : F r0 = some (.inr (1, [.ref (r0 + 1), .ref (r0 + 2), .int ir0_length]))) (h_r0p2 : F (r0 + 2) = some (.inl (2, 12, .inl r0p2_f))) (h_r0p1 : F (r0 + 1) = some (.inl (3, 12, .inl r0p1_f)))
    (q37_0 : (ir0_length < 2) → Q (some (.int 0)) n F)
    (in18_1 : (¬ ir0_length < 2) → vp_in (ir0_length - 1) 12)
    (q37_2 : (¬ ir0_length < 2) → (¬ (r0p2_f (ir0_length - 1).toNatClampNeg) = 0) → Q (some (.int 0)) n F)
    (in32_3 : (¬ ir0_length < 2) → ((r0p2_f (ir0_length - 1).toNatClampNeg) = 0) → vp_in (ir0_length - 2) 12)
    (in48_4 : (¬ ir0_length < 2) → ((r0p2_f (ir0_length - 1).toNatClampNeg) = 0) → ((r0p2_f (ir0_length - 2).toNatClampNeg) = 0) → vp_in (ir0_length - 1) 12)
    (in61_5 : (¬ ir0_length < 2) → ((r0p2_f (ir0_length - 1).toNatClampNeg) = 0) → ((r0p2_f (ir0_length - 2).toNatClampNeg) = 0) → vp_in (ir0_length - 2) 12)
    (q79_6 : (¬ ir0_length < 2) → ((r0p2_f (ir0_length - 1).toNatClampNeg) = 0) → ((r0p2_f (ir0_length - 2).toNatClampNeg) = 0) → (¬ (r0p1_f (ir0_length - 1).toNatClampNeg) = (r0p1_f (ir0_length - 2).toNatClampNeg)) → Q (some (.int 0)) n F)
    (c68_7 : (¬ ir0_length < 2) → ((r0p2_f (ir0_length - 1).toNatClampNeg) = 0) → ((r0p2_f (ir0_length - 2).toNatClampNeg) = 0) → ((r0p1_f (ir0_length - 1).toNatClampNeg) = (r0p1_f (ir0_length - 2).toNatClampNeg)) → Cal l X M_Str_indexOf 0 0 [.ref (X.2.2.2.1 (10 + 11)), .int (r0p1_f (ir0_length - 1).toNatClampNeg)] n F (ev_pure (.int v68) n F))
    (q79_8 : (¬ ir0_length < 2) → ((r0p2_f (ir0_length - 1).toNatClampNeg) = 0) → ((r0p2_f (ir0_length - 2).toNatClampNeg) = 0) → ((r0p1_f (ir0_length - 1).toNatClampNeg) = (r0p1_f (ir0_length - 2).toNatClampNeg)) → (0 ≤ v68) → Q (some (.int 0)) n F)
    (q79_9 : (¬ ir0_length < 2) → ((r0p2_f (ir0_length - 1).toNatClampNeg) = 0) → ((r0p2_f (ir0_length - 2).toNatClampNeg) = 0) → ((r0p1_f (ir0_length - 1).toNatClampNeg) = (r0p1_f (ir0_length - 2).toNatClampNeg)) → (¬ 0 ≤ v68) → Q (some (.int 1)) n F)
    (q37_10 : (¬ ir0_length < 2) → ((r0p2_f (ir0_length - 1).toNatClampNeg) = 0) → (¬ (r0p2_f (ir0_length - 2).toNatClampNeg) = 0) → Q (some (.int 0)) n F) :
    Ev l X M_St_endsInDouble bc bs 0 [(0, .ref r0)] [] n F (ev_mq X Q) := by
  refine ev_aload_n (pc := 0) d_St_endsInDouble_0 rfl ?_
  refine ev_getfield (pc := 1) 2 d_St_endsInDouble_1 fl_St_19 h_r0 rfl ?_
  refine ev_iconst (pc := 4) 2 d_St_endsInDouble_4 (by decide) ?_
  refine ev_icmp_lt (pc := 5) 36 d_St_endsInDouble_5 (by decide) (fun c5 => ?_) (fun c5 => ?_)
  · refine ev_iconst (pc := 36) 0 d_St_endsInDouble_36 (by decide) ?_
    exact ev_ireturn (pc := 37) d_St_endsInDouble_37 rfl rfl (q37_0 c5)
  · refine ev_aload_n (pc := 8) d_St_endsInDouble_8 rfl ?_
    refine ev_getfield (pc := 9) 1 d_St_endsInDouble_9 fl_St_15 h_r0 rfl ?_
    refine ev_aload_n (pc := 12) d_St_endsInDouble_12 rfl ?_
    refine ev_getfield (pc := 13) 2 d_St_endsInDouble_13 fl_St_19 h_r0 rfl ?_
    refine ev_iconst (pc := 16) 1 d_St_endsInDouble_16 (by decide) ?_
    refine ev_isub (pc := 17) d_St_endsInDouble_17 ?_
    refine ev_zaload (pc := 18) d_St_endsInDouble_18 h_r0p2 rfl (in18_1 c5) ?_
    refine ev_if_ne (pc := 19) 36 d_St_endsInDouble_19 (by decide) (fun c19 => ?_) (fun c19 => ?_)
    · refine ev_iconst (pc := 36) 0 d_St_endsInDouble_36 (by decide) ?_
      exact ev_ireturn (pc := 37) d_St_endsInDouble_37 rfl rfl (q37_2 c5 c19)
    · refine ev_aload_n (pc := 22) d_St_endsInDouble_22 rfl ?_
      refine ev_getfield (pc := 23) 1 d_St_endsInDouble_23 fl_St_15 h_r0 rfl ?_
      refine ev_aload_n (pc := 26) d_St_endsInDouble_26 rfl ?_
      refine ev_getfield (pc := 27) 2 d_St_endsInDouble_27 fl_St_19 h_r0 rfl ?_
      refine ev_iconst (pc := 30) 2 d_St_endsInDouble_30 (by decide) ?_
      refine ev_isub (pc := 31) d_St_endsInDouble_31 ?_
      refine ev_zaload (pc := 32) d_St_endsInDouble_32 h_r0p2 rfl (in32_3 c5 c19) ?_
      refine ev_if_eq (pc := 33) 38 d_St_endsInDouble_33 (by decide) (fun c33 => ?_) (fun c33 => ?_)
      · refine ev_aload_n (pc := 38) d_St_endsInDouble_38 rfl ?_
        refine ev_getfield (pc := 39) 0 d_St_endsInDouble_39 fl_St_9 h_r0 rfl ?_
        refine ev_aload_n (pc := 42) d_St_endsInDouble_42 rfl ?_
        refine ev_getfield (pc := 43) 2 d_St_endsInDouble_43 fl_St_19 h_r0 rfl ?_
        refine ev_iconst (pc := 46) 1 d_St_endsInDouble_46 (by decide) ?_
        refine ev_isub (pc := 47) d_St_endsInDouble_47 ?_
        refine ev_caload (pc := 48) d_St_endsInDouble_48 h_r0p1 rfl (in48_4 c5 c19 c33) ?_
        refine ev_istore_n (pc := 49) d_St_endsInDouble_49 (Nat.le_of_ble_eq_true rfl) [1, 0] rfl ?_
        refine ev_iload_n (pc := 50) d_St_endsInDouble_50 rfl ?_
        refine ev_aload_n (pc := 51) d_St_endsInDouble_51 rfl ?_
        refine ev_getfield (pc := 52) 0 d_St_endsInDouble_52 fl_St_9 h_r0 rfl ?_
        refine ev_aload_n (pc := 55) d_St_endsInDouble_55 rfl ?_
        refine ev_getfield (pc := 56) 2 d_St_endsInDouble_56 fl_St_19 h_r0 rfl ?_
        refine ev_iconst (pc := 59) 2 d_St_endsInDouble_59 (by decide) ?_
        refine ev_isub (pc := 60) d_St_endsInDouble_60 ?_
        refine ev_caload (pc := 61) d_St_endsInDouble_61 h_r0p1 rfl (in61_5 c5 c19 c33) ?_
        refine ev_icmp_ne (pc := 62) 78 d_St_endsInDouble_62 (by decide) (fun c62 => ?_) (fun c62 => ?_)
        · refine ev_iconst (pc := 78) 0 d_St_endsInDouble_78 (by decide) ?_
          exact ev_ireturn (pc := 79) d_St_endsInDouble_79 rfl rfl (q79_6 c5 c19 c33 c62)
        · refine ev_ldcS (pc := 65) 11 d_St_endsInDouble_65 (by decide) rfl rfl ?_
          refine ev_iload_n (pc := 67) d_St_endsInDouble_67 rfl ?_
          refine ev_invokevirtualS (pc := 68) (As := [.int (r0p1_f (ir0_length - 1).toNatClampNeg)]) (st := []) (Q2 := ev_pure (.int v68) n F) (bc1 := 0) (bs1 := 0) M_Str_indexOf d_St_endsInDouble_68 lc_St_64 wd_247 wd_248 ⟨by decide, rfl⟩ rfl rfl (Nat.le_of_ble_eq_true rfl) (Nat.le_of_ble_eq_true rfl) (Nat.le_of_ble_eq_true rfl) (Nat.le_refl _) (Nat.le_refl _) (c68_7 c5 c19 c33 c62) ?_
          refine ev_purek ?_
          refine ev_if_ge (pc := 71) 78 d_St_endsInDouble_71 (by decide) (fun c71 => ?_) (fun c71 => ?_)
          · refine ev_iconst (pc := 78) 0 d_St_endsInDouble_78 (by decide) ?_
            exact ev_ireturn (pc := 79) d_St_endsInDouble_79 rfl rfl (q79_8 c5 c19 c33 c62 c71)
          · refine ev_iconst (pc := 74) 1 d_St_endsInDouble_74 (by decide) ?_
            refine ev_goto (pc := 75) 79 d_St_endsInDouble_75 (by decide) ?_
            exact ev_ireturn (pc := 79) d_St_endsInDouble_79 rfl rfl (q79_9 c5 c19 c33 c62 c71)
      · refine ev_iconst (pc := 36) 0 d_St_endsInDouble_36 (by decide) ?_
        exact ev_ireturn (pc := 37) d_St_endsInDouble_37 rfl rfl (q37_10 c5 c19 c33)
set_option maxRecDepth 100000 in
set_option maxHeartbeats 4000000 in
theorem s_St_endsShort_0 {l : Launch} {X : ev_X} {bc bs n : Nat} {F : ev_H} {Q : Option Value → Nat → ev_H → Prop} {r0 : Nat} {ir0_length : Int32} {r0p2_f : Nat → Int32} {r0p1_f : Nat → Int32} {v63 : Int32} (h_r0 : F r0 = some (.inr (1, [.ref (r0 + 1), .ref (r0 + 2), .int ir0_length]))) (h_r0p2 : F (r0 + 2) = some (.inl (2, 12, .inl r0p2_f))) (h_r0p1 : F (r0 + 1) = some (.inl (3, 12, .inl r0p1_f)))
    (q74_0 : (ir0_length < 3) → Q (some (.int 0)) n F)
    (in18_1 : (¬ ir0_length < 3) → vp_in (ir0_length - 3) 12)
    (q74_2 : (¬ ir0_length < 3) → (¬ (r0p2_f (ir0_length - 3).toNatClampNeg) = 0) → Q (some (.int 0)) n F)
    (in32_3 : (¬ ir0_length < 3) → ((r0p2_f (ir0_length - 3).toNatClampNeg) = 0) → vp_in (ir0_length - 2) 12)
    (q74_4 : (¬ ir0_length < 3) → ((r0p2_f (ir0_length - 3).toNatClampNeg) = 0) → ((r0p2_f (ir0_length - 2).toNatClampNeg) = 0) → Q (some (.int 0)) n F)
    (in46_5 : (¬ ir0_length < 3) → ((r0p2_f (ir0_length - 3).toNatClampNeg) = 0) → (¬ (r0p2_f (ir0_length - 2).toNatClampNeg) = 0) → vp_in (ir0_length - 1) 12)
    (q74_6 : (¬ ir0_length < 3) → ((r0p2_f (ir0_length - 3).toNatClampNeg) = 0) → (¬ (r0p2_f (ir0_length - 2).toNatClampNeg) = 0) → (¬ (r0p2_f (ir0_length - 1).toNatClampNeg) = 0) → Q (some (.int 0)) n F)
    (in62_7 : (¬ ir0_length < 3) → ((r0p2_f (ir0_length - 3).toNatClampNeg) = 0) → (¬ (r0p2_f (ir0_length - 2).toNatClampNeg) = 0) → ((r0p2_f (ir0_length - 1).toNatClampNeg) = 0) → vp_in (ir0_length - 1) 12)
    (c63_8 : (¬ ir0_length < 3) → ((r0p2_f (ir0_length - 3).toNatClampNeg) = 0) → (¬ (r0p2_f (ir0_length - 2).toNatClampNeg) = 0) → ((r0p2_f (ir0_length - 1).toNatClampNeg) = 0) → Cal l X M_Str_indexOf 0 0 [.ref (X.2.2.2.1 (10 + 12)), .int (r0p1_f (ir0_length - 1).toNatClampNeg)] n F (ev_pure (.int v63) n F))
    (q74_9 : (¬ ir0_length < 3) → ((r0p2_f (ir0_length - 3).toNatClampNeg) = 0) → (¬ (r0p2_f (ir0_length - 2).toNatClampNeg) = 0) → ((r0p2_f (ir0_length - 1).toNatClampNeg) = 0) → (0 ≤ v63) → Q (some (.int 0)) n F)
    (q74_10 : (¬ ir0_length < 3) → ((r0p2_f (ir0_length - 3).toNatClampNeg) = 0) → (¬ (r0p2_f (ir0_length - 2).toNatClampNeg) = 0) → ((r0p2_f (ir0_length - 1).toNatClampNeg) = 0) → (¬ 0 ≤ v63) → Q (some (.int 1)) n F) :
    Ev l X M_St_endsShort bc bs 0 [(0, .ref r0)] [] n F (ev_mq X Q) := by
  refine ev_aload_n (pc := 0) d_St_endsShort_0 rfl ?_
  refine ev_getfield (pc := 1) 2 d_St_endsShort_1 fl_St_19 h_r0 rfl ?_
  refine ev_iconst (pc := 4) 3 d_St_endsShort_4 (by decide) ?_
  refine ev_icmp_lt (pc := 5) 73 d_St_endsShort_5 (by decide) (fun c5 => ?_) (fun c5 => ?_)
  · refine ev_iconst (pc := 73) 0 d_St_endsShort_73 (by decide) ?_
    exact ev_ireturn (pc := 74) d_St_endsShort_74 rfl rfl (q74_0 c5)
  · refine ev_aload_n (pc := 8) d_St_endsShort_8 rfl ?_
    refine ev_getfield (pc := 9) 1 d_St_endsShort_9 fl_St_15 h_r0 rfl ?_
    refine ev_aload_n (pc := 12) d_St_endsShort_12 rfl ?_
    refine ev_getfield (pc := 13) 2 d_St_endsShort_13 fl_St_19 h_r0 rfl ?_
    refine ev_iconst (pc := 16) 3 d_St_endsShort_16 (by decide) ?_
    refine ev_isub (pc := 17) d_St_endsShort_17 ?_
    refine ev_zaload (pc := 18) d_St_endsShort_18 h_r0p2 rfl (in18_1 c5) ?_
    refine ev_if_ne (pc := 19) 73 d_St_endsShort_19 (by decide) (fun c19 => ?_) (fun c19 => ?_)
    · refine ev_iconst (pc := 73) 0 d_St_endsShort_73 (by decide) ?_
      exact ev_ireturn (pc := 74) d_St_endsShort_74 rfl rfl (q74_2 c5 c19)
    · refine ev_aload_n (pc := 22) d_St_endsShort_22 rfl ?_
      refine ev_getfield (pc := 23) 1 d_St_endsShort_23 fl_St_15 h_r0 rfl ?_
      refine ev_aload_n (pc := 26) d_St_endsShort_26 rfl ?_
      refine ev_getfield (pc := 27) 2 d_St_endsShort_27 fl_St_19 h_r0 rfl ?_
      refine ev_iconst (pc := 30) 2 d_St_endsShort_30 (by decide) ?_
      refine ev_isub (pc := 31) d_St_endsShort_31 ?_
      refine ev_zaload (pc := 32) d_St_endsShort_32 h_r0p2 rfl (in32_3 c5 c19) ?_
      refine ev_if_eq (pc := 33) 73 d_St_endsShort_33 (by decide) (fun c33 => ?_) (fun c33 => ?_)
      · refine ev_iconst (pc := 73) 0 d_St_endsShort_73 (by decide) ?_
        exact ev_ireturn (pc := 74) d_St_endsShort_74 rfl rfl (q74_4 c5 c19 c33)
      · refine ev_aload_n (pc := 36) d_St_endsShort_36 rfl ?_
        refine ev_getfield (pc := 37) 1 d_St_endsShort_37 fl_St_15 h_r0 rfl ?_
        refine ev_aload_n (pc := 40) d_St_endsShort_40 rfl ?_
        refine ev_getfield (pc := 41) 2 d_St_endsShort_41 fl_St_19 h_r0 rfl ?_
        refine ev_iconst (pc := 44) 1 d_St_endsShort_44 (by decide) ?_
        refine ev_isub (pc := 45) d_St_endsShort_45 ?_
        refine ev_zaload (pc := 46) d_St_endsShort_46 h_r0p2 rfl (in46_5 c5 c19 c33) ?_
        refine ev_if_ne (pc := 47) 73 d_St_endsShort_47 (by decide) (fun c47 => ?_) (fun c47 => ?_)
        · refine ev_iconst (pc := 73) 0 d_St_endsShort_73 (by decide) ?_
          exact ev_ireturn (pc := 74) d_St_endsShort_74 rfl rfl (q74_6 c5 c19 c33 c47)
        · refine ev_ldcS (pc := 50) 12 d_St_endsShort_50 (by decide) rfl rfl ?_
          refine ev_aload_n (pc := 52) d_St_endsShort_52 rfl ?_
          refine ev_getfield (pc := 53) 0 d_St_endsShort_53 fl_St_9 h_r0 rfl ?_
          refine ev_aload_n (pc := 56) d_St_endsShort_56 rfl ?_
          refine ev_getfield (pc := 57) 2 d_St_endsShort_57 fl_St_19 h_r0 rfl ?_
          refine ev_iconst (pc := 60) 1 d_St_endsShort_60 (by decide) ?_
          refine ev_isub (pc := 61) d_St_endsShort_61 ?_
          refine ev_caload (pc := 62) d_St_endsShort_62 h_r0p1 rfl (in62_7 c5 c19 c33 c47) ?_
          refine ev_invokevirtualS (pc := 63) (As := [.int (r0p1_f (ir0_length - 1).toNatClampNeg)]) (st := []) (Q2 := ev_pure (.int v63) n F) (bc1 := 0) (bs1 := 0) M_Str_indexOf d_St_endsShort_63 lc_St_64 wd_247 wd_248 ⟨by decide, rfl⟩ rfl rfl (Nat.le_of_ble_eq_true rfl) (Nat.le_of_ble_eq_true rfl) (Nat.le_of_ble_eq_true rfl) (Nat.le_refl _) (Nat.le_refl _) (c63_8 c5 c19 c33 c47) ?_
          refine ev_purek ?_
          refine ev_if_ge (pc := 66) 73 d_St_endsShort_66 (by decide) (fun c66 => ?_) (fun c66 => ?_)
          · refine ev_iconst (pc := 73) 0 d_St_endsShort_73 (by decide) ?_
            exact ev_ireturn (pc := 74) d_St_endsShort_74 rfl rfl (q74_9 c5 c19 c33 c47 c66)
          · refine ev_iconst (pc := 69) 1 d_St_endsShort_69 (by decide) ?_
            refine ev_goto (pc := 70) 74 d_St_endsShort_70 (by decide) ?_
            exact ev_ireturn (pc := 74) d_St_endsShort_74 rfl rfl (q74_10 c5 c19 c33 c47 c66)
set_option maxRecDepth 100000 in
set_option maxHeartbeats 4000000 in
theorem s_St_turnFinalY_0 {l : Launch} {X : ev_X} {bc bs n : Nat} {F : ev_H} {Q : Option Value → Nat → ev_H → Prop} {r0 : Nat} {ir0_length : Int32} {v3 : Int32} {v16 : Int32} {Q35 : Option Value → Nat → ev_H → Prop} {bc35 : Nat} {bs35 : Nat} {rc35 : Nat} {rs35 : Nat} (h_r0 : F r0 = some (.inr (1, [.ref (r0 + 1), .ref (r0 + 2), .int ir0_length]))) (hb_rc35 : rc35 + bc35 ≤ bc) (hs_rs35 : rs35 + bs35 ≤ bs)
    (c3_0 : Cal l X M_St_endsIn 0 0 [.ref r0, .ref (X.2.2.2.1 (10 + 13))] n F (ev_pure (.int v3) n F))
    (q38_1 : (v3 = 0) → Q none n F)
    (c16_2 : (¬ v3 = 0) → Cal l X M_St_hasVowel 0 0 [.ref r0, .int (ir0_length - 1)] n F (ev_pure (.int v16) n F))
    (q38_3 : (¬ v3 = 0) → (v16 = 0) → Q none n F)
    (c35_4 : (¬ v3 = 0) → (¬ v16 = 0) → Cal l X M_St_append bc35 bs35 [.ref r0, .int 105] n (ev_up F r0 (.inr (1, [.ref (r0 + 1), .ref (r0 + 2), .int (ir0_length - 1)]))) Q35)
    (k38_5 : (¬ v3 = 0) → (¬ v16 = 0) → ∀ v2 n2 F2, Q35 v2 n2 F2 → Ev l X M_St_turnFinalY rc35 rs35 38 [(0, .ref r0)] (v2.toList ++ []) n2 F2 (ev_mq X Q)) :
    Ev l X M_St_turnFinalY bc bs 0 [(0, .ref r0)] [] n F (ev_mq X Q) := by
  refine ev_aload_n (pc := 0) d_St_turnFinalY_0 rfl ?_
  refine ev_ldcS (pc := 1) 13 d_St_turnFinalY_1 (by decide) rfl rfl ?_
  refine ev_invokevirtual (pc := 3) (As := [.ref (X.2.2.2.1 (10 + 13))]) (st := []) (Q2 := ev_pure (.int v3) n F) (bc1 := 0) (bs1 := 0) M_St_endsIn rC1 d_St_turnFinalY_3 lc_St_72 wd_339 wd_s3 rfl h_r0 rfl rfl (Nat.le_of_ble_eq_true rfl) (Nat.le_of_ble_eq_true rfl) (Nat.le_of_ble_eq_true rfl) (Nat.le_refl _) (Nat.le_refl _) c3_0 ?_
  refine ev_purek ?_
  refine ev_if_eq (pc := 6) 38 d_St_turnFinalY_6 (by decide) (fun c6 => ?_) (fun c6 => ?_)
  · exact ev_return (pc := 38) d_St_turnFinalY_38 rfl (q38_1 c6)
  · refine ev_aload_n (pc := 9) d_St_turnFinalY_9 rfl ?_
    refine ev_aload_n (pc := 10) d_St_turnFinalY_10 rfl ?_
    refine ev_getfield (pc := 11) 2 d_St_turnFinalY_11 fl_St_19 h_r0 rfl ?_
    refine ev_iconst (pc := 14) 1 d_St_turnFinalY_14 (by decide) ?_
    refine ev_isub (pc := 15) d_St_turnFinalY_15 ?_
    refine ev_invokevirtual (pc := 16) (As := [.int (ir0_length - 1)]) (st := []) (Q2 := ev_pure (.int v16) n F) (bc1 := 0) (bs1 := 0) M_St_hasVowel rC1 d_St_turnFinalY_16 lc_St_91 wd_378 wd_s6 rfl h_r0 rfl rfl (Nat.le_of_ble_eq_true rfl) (Nat.le_of_ble_eq_true rfl) (Nat.le_of_ble_eq_true rfl) (Nat.le_refl _) (Nat.le_refl _) (c16_2 c6) ?_
    refine ev_purek ?_
    refine ev_if_eq (pc := 19) 38 d_St_turnFinalY_19 (by decide) (fun c19 => ?_) (fun c19 => ?_)
    · exact ev_return (pc := 38) d_St_turnFinalY_38 rfl (q38_3 c6 c19)
    · refine ev_aload_n (pc := 22) d_St_turnFinalY_22 rfl ?_
      refine ev_dup (pc := 23) d_St_turnFinalY_23 rfl ?_
      refine ev_getfield (pc := 24) 2 d_St_turnFinalY_24 fl_St_19 h_r0 rfl ?_
      refine ev_iconst (pc := 27) 1 d_St_turnFinalY_27 (by decide) ?_
      refine ev_isub (pc := 28) d_St_turnFinalY_28 ?_
      refine ev_putfield (pc := 29) 2 _ d_St_turnFinalY_29 fl_St_19 h_r0 pf_1_length rfl rfl (Nat.le_of_ble_eq_true rfl) (fun F1_ hF1_ => ?_)
      have g2_ : F1_ r0 = some (.inr (1, [.ref (r0 + 1), .ref (r0 + 2), .int (ir0_length - 1)])) := by rw [← hF1_]; exact ev_up_s
      refine ev_aload_n (pc := 32) d_St_turnFinalY_32 rfl ?_
      refine ev_bipush (pc := 33) 105 d_St_turnFinalY_33 (by decide) ?_
      exact ev_invokevirtual (pc := 35) (As := [.int 105]) (st := []) (Q2 := Q35) M_St_append rC1 d_St_turnFinalY_35 lc_St_58 wd_243 wd_s1 rfl g2_ rfl rfl (Nat.le_of_ble_eq_true rfl) (Nat.le_of_ble_eq_true rfl) (Nat.le_of_ble_eq_true rfl) hb_rc35 hs_rs35 (by subst hF1_; exact (c35_4 c6 c19)) (k38_5 c6 c19)

set_option maxRecDepth 100000 in
set_option maxHeartbeats 4000000 in
theorem s_St_turnFinalY_38 {l : Launch} {X : ev_X} {bc bs n : Nat} {F : ev_H} {Q : Option Value → Nat → ev_H → Prop} {r0 : Nat} 
    (q38_0 : Q none n F) :
    Ev l X M_St_turnFinalY bc bs 38 [(0, .ref r0)] [] n F (ev_mq X Q) := by
  exact ev_return (pc := 38) d_St_turnFinalY_38 rfl q38_0
set_option maxRecDepth 100000 in
set_option maxHeartbeats 4000000 in
theorem s_St_packed_0 {l : Launch} {X : ev_X} {bc bs n : Nat} {F : ev_H} {Q : Option Value → Nat → ev_H → Prop} {r0 : Nat} {ir0_length : Int32} (h_r0 : F r0 = some (.inr (1, [.ref (r0 + 1), .ref (r0 + 2), .int ir0_length])))
    (k9_0 : Ev l X M_St_packed bc bs 9 [(0, .ref r0), (1, .long 0), (3, .int (ir0_length - 1))] [] n F (ev_mq X Q)) :
    Ev l X M_St_packed bc bs 0 [(0, .ref r0)] [] n F (ev_mq X Q) := by
  refine ev_lconst (pc := 0) 0 d_St_packed_0 (by decide) ?_
  refine ev_lstore_n (pc := 1) d_St_packed_1 (Nat.le_of_ble_eq_true rfl) [1, 0] rfl ?_
  refine ev_aload_n (pc := 2) d_St_packed_2 rfl ?_
  refine ev_getfield (pc := 3) 2 d_St_packed_3 fl_St_19 h_r0 rfl ?_
  refine ev_iconst (pc := 6) 1 d_St_packed_6 (by decide) ?_
  refine ev_isub (pc := 7) d_St_packed_7 ?_
  refine ev_istore_n (pc := 8) d_St_packed_8 (Nat.le_of_ble_eq_true rfl) [1, 2, 0] rfl ?_
  exact k9_0

set_option maxRecDepth 100000 in
set_option maxHeartbeats 4000000 in
theorem s_St_packed_9 {l : Launch} {X : ev_X} {bc bs n : Nat} {F : ev_H} {Q : Option Value → Nat → ev_H → Prop} {r0 : Nat} {j1 : Int64} {i3 : Int32} {ir0_length : Int32} {r0p1_f : Nat → Int32} (h_r0 : F r0 = some (.inr (1, [.ref (r0 + 1), .ref (r0 + 2), .int ir0_length]))) (h_r0p1 : F (r0 + 1) = some (.inl (3, 12, .inl r0p1_f)))
    (q37_0 : (i3 < 0) → Q (some (.long j1)) n F)
    (in21_1 : (¬ i3 < 0) → vp_in i3 12)
    (k9_2 : (¬ i3 < 0) → Ev l X M_St_packed bc bs 9 [(0, .ref r0), (1, .long ((j1 <<< ((5 : Int32).toInt64 &&& 63)) ||| ((((r0p1_f i3.toNatClampNeg) - 97) + 1).toInt64))), (3, .int (i3 + (-1)))] [] n F (ev_mq X Q)) :
    Ev l X M_St_packed bc bs 9 [(0, .ref r0), (1, .long j1), (3, .int i3)] [] n F (ev_mq X Q) := by
  refine ev_iload_n (pc := 9) d_St_packed_9 rfl ?_
  refine ev_if_lt (pc := 10) 36 d_St_packed_10 (by decide) (fun c10 => ?_) (fun c10 => ?_)
  · refine ev_lload_n (pc := 36) d_St_packed_36 rfl ?_
    exact ev_lreturn (pc := 37) d_St_packed_37 rfl (q37_0 c10)
  · refine ev_lload_n (pc := 13) d_St_packed_13 rfl ?_
    refine ev_iconst (pc := 14) 5 d_St_packed_14 (by decide) ?_
    refine ev_lshl (pc := 15) d_St_packed_15 ?_
    refine ev_aload_n (pc := 16) d_St_packed_16 rfl ?_
    refine ev_getfield (pc := 17) 0 d_St_packed_17 fl_St_9 h_r0 rfl ?_
    refine ev_iload_n (pc := 20) d_St_packed_20 rfl ?_
    refine ev_caload (pc := 21) d_St_packed_21 h_r0p1 rfl (in21_1 c10) ?_
    refine ev_bipush (pc := 22) 97 d_St_packed_22 (by decide) ?_
    refine ev_isub (pc := 24) d_St_packed_24 ?_
    refine ev_iconst (pc := 25) 1 d_St_packed_25 (by decide) ?_
    refine ev_iadd (pc := 26) d_St_packed_26 ?_
    refine ev_i2l (pc := 27) d_St_packed_27 ?_
    refine ev_lor (pc := 28) d_St_packed_28 ?_
    refine ev_lstore_n (pc := 29) d_St_packed_29 (Nat.le_of_ble_eq_true rfl) [1, 0, 2] rfl ?_
    refine ev_iinc (pc := 30) 2 (-1) d_St_packed_30 rfl (by decide) (Nat.le_of_ble_eq_true rfl) [1, 2, 0] rfl ?_
    refine ev_goto (pc := 33) 9 d_St_packed_33 (by decide) ?_
    exact (k9_2 c10)
set_option maxRecDepth 100000 in
set_option maxHeartbeats 4000000 in
theorem s_St_termOf_0 {l : Launch} {X : ev_X} {bc bs n : Nat} {F : ev_H} {Q : Option Value → Nat → ev_H → Prop} {r0 : Nat} {j1 : Int64} {v1 : Int32} {ir0_length : Int32} {Q13 : Option Value → Nat → ev_H → Prop} {bc13 : Nat} {bs13 : Nat} {rc13 : Nat} {rs13 : Nat} (h_r0 : F r0 = some (.inr (1, [.ref (r0 + 1), .ref (r0 + 2), .int ir0_length]))) (hb_rc13 : rc13 + bc13 ≤ bc) (hs_rs13 : rs13 + bs13 ≤ bs)
    (c1_0 : Cal l X M_St_isStopWord 0 0 [.long j1] n F (ev_pure (.int v1) n F))
    (c13_1 : (v1 = 0) → Cal l X M_St_stemOf bc13 bs13 [.ref r0, .long j1] n F Q13)
    (k16_2 : (v1 = 0) → ∀ v2 n2 F2, Q13 v2 n2 F2 → Ev l X M_St_termOf rc13 rs13 16 [(0, .ref r0), (1, .long j1)] (v2.toList ++ []) n2 F2 (ev_mq X Q))
    (q16_3 : (¬ v1 = 0) → Q (some (.long 0)) n F) :
    Ev l X M_St_termOf bc bs 0 [(0, .ref r0), (1, .long j1)] [] n F (ev_mq X Q) := by
  refine ev_lload_n (pc := 0) d_St_termOf_0 rfl ?_
  refine ev_invokestatic (pc := 1) (As := [.long j1]) (st := []) (Q2 := ev_pure (.int v1) n F) (bc1 := 0) (bs1 := 0) M_St_isStopWord d_St_termOf_1 lc_St_31 wd_416 rfl rfl (Nat.le_of_ble_eq_true rfl) (Nat.le_of_ble_eq_true rfl) (Nat.le_of_ble_eq_true rfl) (Nat.le_refl _) (Nat.le_refl _) c1_0 ?_
  refine ev_purek ?_
  refine ev_if_eq (pc := 4) 11 d_St_termOf_4 (by decide) (fun c4 => ?_) (fun c4 => ?_)
  · refine ev_aload_n (pc := 11) d_St_termOf_11 rfl ?_
    refine ev_lload_n (pc := 12) d_St_termOf_12 rfl ?_
    exact ev_invokevirtual (pc := 13) (As := [.long j1]) (st := []) (Q2 := Q13) M_St_stemOf rC1 d_St_termOf_13 lc_St_35 wd_233 wd_234 rfl h_r0 rfl rfl (Nat.le_of_ble_eq_true rfl) (Nat.le_of_ble_eq_true rfl) (Nat.le_of_ble_eq_true rfl) hb_rc13 hs_rs13 (c13_1 c4) (k16_2 c4)
  · refine ev_lconst (pc := 7) 0 d_St_termOf_7 (by decide) ?_
    refine ev_goto (pc := 8) 16 d_St_termOf_8 (by decide) ?_
    exact ev_lreturn (pc := 16) d_St_termOf_16 rfl (q16_3 c4)

set_option maxRecDepth 100000 in
set_option maxHeartbeats 4000000 in
theorem s_St_termOf_16 {l : Launch} {X : ev_X} {bc bs n : Nat} {F : ev_H} {Q : Option Value → Nat → ev_H → Prop} {r0 : Nat} {j1 : Int64} {js0 : Int64} 
    (q16_0 : Q (some (.long js0)) n F) :
    Ev l X M_St_termOf bc bs 16 [(0, .ref r0), (1, .long j1)] [.long js0] n F (ev_mq X Q) := by
  exact ev_lreturn (pc := 16) d_St_termOf_16 rfl q16_0
set_option maxRecDepth 100000 in
set_option maxHeartbeats 4000000 in
theorem s_St_isStopWord_0 {l : Launch} {X : ev_X} {bc bs n : Nat} {F : ev_H} {Q : Option Value → Nat → ev_H → Prop} {j0 : Int64} 
    (k2_0 : Ev l X M_St_isStopWord bc bs 2 [(0, .long j0), (2, .int 0)] [] n F (ev_mq X Q)) :
    Ev l X M_St_isStopWord bc bs 0 [(0, .long j0)] [] n F (ev_mq X Q) := by
  refine ev_iconst (pc := 0) 0 d_St_isStopWord_0 (by decide) ?_
  refine ev_istore_n (pc := 1) d_St_isStopWord_1 (Nat.le_of_ble_eq_true rfl) [1, 0] rfl ?_
  exact k2_0

set_option maxRecDepth 100000 in
set_option maxHeartbeats 4000000 in
theorem s_St_isStopWord_2 {l : Launch} {X : ev_X} {bc bs n : Nat} {F : ev_H} {Q : Option Value → Nat → ev_H → Prop} {j0 : Int64} {i2 : Int32} 
    (q29_0 : ((nI 8) ≤ i2) → Q (some (.int 0)) n F)
    (in14_1 : (¬ (nI 8) ≤ i2) → vp_in i2 8)
    (k2_2 : (¬ (nI 8) ≤ i2) → (¬ (lg_cmp (ev_stop.getD i2.toNatClampNeg 0) j0) = 0) → Ev l X M_St_isStopWord bc bs 2 [(0, .long j0), (2, .int (i2 + 1))] [] n F (ev_mq X Q))
    (q21_3 : (¬ (nI 8) ≤ i2) → ((lg_cmp (ev_stop.getD i2.toNatClampNeg 0) j0) = 0) → Q (some (.int 1)) n F) :
    Ev l X M_St_isStopWord bc bs 2 [(0, .long j0), (2, .int i2)] [] n F (ev_mq X Q) := by
  refine ev_iload_n (pc := 2) d_St_isStopWord_2 rfl ?_
  refine ev_getstatic (pc := 3) d_St_isStopWord_3 (fun _ h => h.2.2.2.1.1) (Or.inr ⟨_, wd_418⟩) ?_
  refine ev_talen (pc := 6) d_St_isStopWord_6 evT_stop ?_
  refine ev_icmp_ge (pc := 7) 28 d_St_isStopWord_7 (by decide) (fun c7 => ?_) (fun c7 => ?_)
  · refine ev_iconst (pc := 28) 0 d_St_isStopWord_28 (by decide) ?_
    exact ev_ireturn (pc := 29) d_St_isStopWord_29 rfl rfl (q29_0 c7)
  · refine ev_getstatic (pc := 10) d_St_isStopWord_10 (fun _ h => h.2.2.2.1.1) (Or.inr ⟨_, wd_418⟩) ?_
    refine ev_iload_n (pc := 13) d_St_isStopWord_13 rfl ?_
    refine ev_tlaload (pc := 14) d_St_isStopWord_14 evT_stop (in14_1 c7) rfl ?_
    refine ev_lload_n (pc := 15) d_St_isStopWord_15 rfl ?_
    refine ev_lcmp (pc := 16) d_St_isStopWord_16 ?_
    refine ev_if_ne (pc := 17) 22 d_St_isStopWord_17 (by decide) (fun c17 => ?_) (fun c17 => ?_)
    · refine ev_iinc (pc := 22) 1 1 d_St_isStopWord_22 rfl (by decide) (Nat.le_of_ble_eq_true rfl) [1, 0] rfl ?_
      refine ev_goto (pc := 25) 2 d_St_isStopWord_25 (by decide) ?_
      exact (k2_2 c7 c17)
    · refine ev_iconst (pc := 20) 1 d_St_isStopWord_20 (by decide) ?_
      exact ev_ireturn (pc := 21) d_St_isStopWord_21 rfl rfl (q21_3 c7 c17)
