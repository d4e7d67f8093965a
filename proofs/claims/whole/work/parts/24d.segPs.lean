set_option maxRecDepth 100000 in
set_option maxHeartbeats 4000000 in
theorem s_P_init_0 {l : Launch} {X : ev_X} {bc bs n : Nat} {F : ev_H} {Q : Option Value → Nat → ev_H → Prop} {r0 : Nat} {rc5 : Nat} {rs5 : Nat} {Q9 : Option Value → Nat → ev_H → Prop} {bc9 : Nat} {bs9 : Nat} {rc9 : Nat} {rs9 : Nat} (hb_rc5 : rc5 + 1 ≤ bc) (hs_rs5 : rs5 + 3 ≤ bs) (hb_rc9 : rc9 + bc9 ≤ rc5) (hs_rs9 : rs9 + bs9 ≤ rs5)
    (c9_0 : Cal l X M_St_init bc9 bs9 [.ref n] (n + 1) (ev_up F n (.inr (1, [.null, .null, .int 0]))) Q9)
    (k12_1 : ∀ v2 n2 F2, Q9 v2 n2 F2 → Ev l X M_P_init rc9 rs9 12 [(0, .ref r0)] (v2.toList ++ [.ref n, .ref r0]) n2 F2 (ev_mq X Q)) :
    Ev l X M_P_init bc bs 0 [(0, .ref r0)] [] n F (ev_mq X Q) := by
  refine ev_aload_n (pc := 0) d_P_init_0 rfl ?_
  refine ev_objInit (pc := 1) d_P_init_1 wd_32 wd_33 wd_34 (Nat.le_of_ble_eq_true rfl) (Nat.le_of_ble_eq_true rfl) ?_
  refine ev_aload_n (pc := 4) d_P_init_4 rfl ?_
  refine ev_fresh fun fr5 => ?_
  refine ev_new (pc := 5) 1 [.null, .null, .int 0] d_P_init_5 ck_1 wd_35 wd_36 wd_2 (by decide +kernel) (bc2 := rc5) (bs2 := rs5) hb_rc5 hs_rs5 (fun F1_ hF1_ => ?_)
  have g2_ : F1_ n = some (.inr (1, [.null, .null, .int 0])) := by rw [← hF1_]; exact ev_up_s
  refine ev_dup (pc := 8) d_P_init_8 rfl ?_
  exact ev_init (pc := 9) (As := []) (st := [.ref n, .ref r0]) (Q2 := Q9) M_St_init d_P_init_9 lc_P_9 rfl rfl wd_38 rfl rfl (Nat.le_of_ble_eq_true rfl) (Nat.le_of_ble_eq_true rfl) (Nat.le_of_ble_eq_true rfl) hb_rc9 hs_rs9 (by subst hF1_; exact c9_0) k12_1

set_option maxRecDepth 100000 in
set_option maxHeartbeats 4000000 in
theorem s_P_init_12 {l : Launch} {X : ev_X} {bc bs n : Nat} {F : ev_H} {Q : Option Value → Nat → ev_H → Prop} {r0 : Nat} {rs0 : Nat} {rs1 : Nat} {irs0_draftWords : Int32} {rc18 : Nat} {rs18 : Nat} {ir0_draftWords : Int32} {rc29 : Nat} {rs29 : Nat} {Q33 : Option Value → Nat → ev_H → Prop} {bc33 : Nat} {bs33 : Nat} {rc33 : Nat} {rs33 : Nat} (h_rs0 : F rs0 = some (psO rs0 irs0_draftWords)) (hb_rc18 : rc18 + 1 ≤ bc) (hs_rs18 : rs18 + 12 ≤ bs) (h_r0 : F r0 = some (.inr (0, [.null, .null, .int ir0_draftWords, .null, .null, .null, .null, .null, .null]))) (ne_r0_rs0 : r0 ≠ rs0) (ne_rs0_r0 : rs0 ≠ r0) (hb_rc29 : rc29 + 1 ≤ rc18) (hs_rs29 : rs29 + 2 ≤ rs18) (hb_rc33 : rc33 + bc33 ≤ rc29) (hs_rs33 : rs33 + bs33 ≤ rs29)
    (c33_0 : Cal l X M_Pe_init bc33 bs33 [.ref (n + 1)] (n + 2) (ev_up (ev_up (ev_up (ev_up (ev_up F rs0 (.inr (0, [.ref rs1, .ref (rs0 + 4), .int irs0_draftWords, .ref (rs0 + 5), .ref (rs0 + 7), .ref (rs0 + 10), .ref (rs0 + 11), .ref (rs0 + 14), .ref (rs0 + 25)]))) n (.inl (1, 12, .inr (.inl (fun _ => 0))))) r0 (.inr (0, [.null, .ref n, .int ir0_draftWords, .null, .null, .null, .null, .null, .null]))) r0 (.inr (0, [.null, .ref n, .int 0, .null, .null, .null, .null, .null, .null]))) (n + 1) (.inr (2, [.null, .int 0]))) Q33)
    (k36_1 : ∀ v2 n2 F2, Q33 v2 n2 F2 → Ev l X M_P_init rc33 rs33 36 [(0, .ref r0)] (v2.toList ++ [.ref (n + 1), .ref r0]) n2 F2 (ev_mq X Q)) :
    Ev l X M_P_init bc bs 12 [(0, .ref r0)] [.ref rs1, .ref rs0] n F (ev_mq X Q) := by
  refine ev_putfield (pc := 12) 0 _ d_P_init_12 fl_P_10 h_rs0 (ev_pfn (r0 := rC0) (ty := (.object "PostingShelf$Stemmer")) rfl (Or.inr ⟨rfl, rfl, rfl⟩) (by decide +kernel)) rfl rfl (Nat.le_of_ble_eq_true rfl) (fun F1_ hF1_ => ?_)
  have g2_ : F1_ rs0 = some (.inr (0, [.ref rs1, .ref (rs0 + 4), .int irs0_draftWords, .ref (rs0 + 5), .ref (rs0 + 7), .ref (rs0 + 10), .ref (rs0 + 11), .ref (rs0 + 14), .ref (rs0 + 25)])) := by rw [← hF1_]; exact ev_up_s
  refine ev_aload_n (pc := 15) d_P_init_15 rfl ?_
  refine ev_bipush (pc := 16) 12 d_P_init_16 (by decide) ?_
  refine ev_fresh fun fr18 => ?_
  refine ev_newarray (pc := 18) 1 12 (12, .inr (.inl (fun _ => 0))) d_P_init_18 wd_85 rfl rfl (fun _ _ h => h) (fun _ => rfl) (by decide) (by decide) (by decide) (bc2 := rc18) (bs2 := rs18) hb_rc18 hs_rs18 (fun F3_ hF3_ => ?_)
  have g4_ : F3_ rs0 = some (.inr (0, [.ref rs1, .ref (rs0 + 4), .int irs0_draftWords, .ref (rs0 + 5), .ref (rs0 + 7), .ref (rs0 + 10), .ref (rs0 + 11), .ref (rs0 + 14), .ref (rs0 + 25)])) := by rw [← hF3_]; exact ev_up_k (ev_nf g2_ (fr18 _ (Nat.le_refl _))) g2_
  have g5_ : F3_ n = some (.inl (1, 12, .inr (.inl (fun _ => 0)))) := by rw [← hF3_]; exact ev_up_s
  have g6_ : F1_ r0 = some (.inr (0, [.null, .null, .int ir0_draftWords, .null, .null, .null, .null, .null, .null])) := by rw [← hF1_]; exact ev_up_k ne_r0_rs0 h_r0
  have g7_ : F3_ r0 = some (.inr (0, [.null, .null, .int ir0_draftWords, .null, .null, .null, .null, .null, .null])) := by rw [← hF3_]; exact ev_up_k (ev_nf g6_ (fr18 _ (Nat.le_refl _))) g6_
  refine ev_putfield (pc := 20) 1 _ d_P_init_20 fl_P_16 g7_ (ev_pfn (r0 := rC0) (ty := (.array .long)) rfl (Or.inr ⟨rfl, rfl, rfl⟩) (by decide +kernel)) rfl rfl (Nat.le_of_ble_eq_true rfl) (fun F8_ hF8_ => ?_)
  have g9_ : F8_ rs0 = some (.inr (0, [.ref rs1, .ref (rs0 + 4), .int irs0_draftWords, .ref (rs0 + 5), .ref (rs0 + 7), .ref (rs0 + 10), .ref (rs0 + 11), .ref (rs0 + 14), .ref (rs0 + 25)])) := by rw [← hF8_]; exact ev_up_k ne_rs0_r0 g4_
  have g10_ : F8_ n = some (.inl (1, 12, .inr (.inl (fun _ => 0)))) := by rw [← hF8_]; exact ev_up_k (ev_ne_ao g5_ g7_) g5_
  have g11_ : F8_ r0 = some (.inr (0, [.null, .ref n, .int ir0_draftWords, .null, .null, .null, .null, .null, .null])) := by rw [← hF8_]; exact ev_up_s
  refine ev_aload_n (pc := 23) d_P_init_23 rfl ?_
  refine ev_iconst (pc := 24) 0 d_P_init_24 (by decide) ?_
  refine ev_putfield (pc := 25) 2 _ d_P_init_25 fl_P_20 g11_ pf_0_draftWords rfl rfl (Nat.le_of_ble_eq_true rfl) (fun F12_ hF12_ => ?_)
  have g13_ : F12_ rs0 = some (.inr (0, [.ref rs1, .ref (rs0 + 4), .int irs0_draftWords, .ref (rs0 + 5), .ref (rs0 + 7), .ref (rs0 + 10), .ref (rs0 + 11), .ref (rs0 + 14), .ref (rs0 + 25)])) := by rw [← hF12_]; exact ev_up_k ne_rs0_r0 g9_
  have g14_ : F12_ n = some (.inl (1, 12, .inr (.inl (fun _ => 0)))) := by rw [← hF12_]; exact ev_up_k (ev_ne_ao g10_ g11_) g10_
  have g15_ : F12_ r0 = some (.inr (0, [.null, .ref n, .int 0, .null, .null, .null, .null, .null, .null])) := by rw [← hF12_]; exact ev_up_s
  refine ev_aload_n (pc := 28) d_P_init_28 rfl ?_
  refine ev_fresh fun fr29 => ?_
  refine ev_new (pc := 29) 2 [.null, .int 0] d_P_init_29 ck_2 wd_53 wd_54 wd_3 (by decide +kernel) (bc2 := rc29) (bs2 := rs29) hb_rc29 hs_rs29 (fun F16_ hF16_ => ?_)
  have g17_ : F16_ rs0 = some (.inr (0, [.ref rs1, .ref (rs0 + 4), .int irs0_draftWords, .ref (rs0 + 5), .ref (rs0 + 7), .ref (rs0 + 10), .ref (rs0 + 11), .ref (rs0 + 14), .ref (rs0 + 25)])) := by rw [← hF16_]; exact ev_up_k (ev_nf g13_ (fr29 _ (Nat.le_refl _))) g13_
  have g18_ : F16_ n = some (.inl (1, 12, .inr (.inl (fun _ => 0)))) := by rw [← hF16_]; exact ev_up_k (ev_nf g14_ (fr29 _ (Nat.le_refl _))) g14_
  have g19_ : F16_ r0 = some (.inr (0, [.null, .ref n, .int 0, .null, .null, .null, .null, .null, .null])) := by rw [← hF16_]; exact ev_up_k (ev_nf g15_ (fr29 _ (Nat.le_refl _))) g15_
  have g20_ : F16_ (n + 1) = some (.inr (2, [.null, .int 0])) := by rw [← hF16_]; exact ev_up_s
  refine ev_dup (pc := 32) d_P_init_32 rfl ?_
  exact ev_init (pc := 33) (As := []) (st := [.ref (n + 1), .ref r0]) (Q2 := Q33) M_Pe_init d_P_init_33 lc_P_26 rfl rfl wd_56 rfl rfl (Nat.le_of_ble_eq_true rfl) (Nat.le_of_ble_eq_true rfl) (Nat.le_of_ble_eq_true rfl) hb_rc33 hs_rs33 (by subst hF1_ hF3_ hF8_ hF12_ hF16_; exact c33_0) k36_1

set_option maxRecDepth 100000 in
set_option maxHeartbeats 4000000 in
theorem s_P_init_36 {l : Launch} {X : ev_X} {bc bs n : Nat} {F : ev_H} {Q : Option Value → Nat → ev_H → Prop} {r0 : Nat} {rs0 : Nat} {rs1 : Nat} {irs0_draftWords : Int32} {rc40 : Nat} {rs40 : Nat} {Q44 : Option Value → Nat → ev_H → Prop} {bc44 : Nat} {bs44 : Nat} {rc44 : Nat} {rs44 : Nat} (h_rs0 : F rs0 = some (psO rs0 irs0_draftWords)) (hb_rc40 : rc40 + 1 ≤ bc) (hs_rs40 : rs40 + 2 ≤ bs) (hb_rc44 : rc44 + bc44 ≤ rc40) (hs_rs44 : rs44 + bs44 ≤ rs40)
    (c44_0 : Cal l X M_Sh_init bc44 bs44 [.ref n] (n + 1) (ev_up (ev_up F rs0 (.inr (0, [.ref (rs0 + 1), .ref (rs0 + 4), .int irs0_draftWords, .ref rs1, .ref (rs0 + 7), .ref (rs0 + 10), .ref (rs0 + 11), .ref (rs0 + 14), .ref (rs0 + 25)]))) n (.inr (3, [.null, .null]))) Q44)
    (k47_1 : ∀ v2 n2 F2, Q44 v2 n2 F2 → Ev l X M_P_init rc44 rs44 47 [(0, .ref r0)] (v2.toList ++ [.ref n, .ref r0]) n2 F2 (ev_mq X Q)) :
    Ev l X M_P_init bc bs 36 [(0, .ref r0)] [.ref rs1, .ref rs0] n F (ev_mq X Q) := by
  refine ev_putfield (pc := 36) 3 _ d_P_init_36 fl_P_27 h_rs0 (ev_pfn (r0 := rC0) (ty := (.object "PostingShelf$Pending")) rfl (Or.inr ⟨rfl, rfl, rfl⟩) (by decide +kernel)) rfl rfl (Nat.le_of_ble_eq_true rfl) (fun F1_ hF1_ => ?_)
  have g2_ : F1_ rs0 = some (.inr (0, [.ref (rs0 + 1), .ref (rs0 + 4), .int irs0_draftWords, .ref rs1, .ref (rs0 + 7), .ref (rs0 + 10), .ref (rs0 + 11), .ref (rs0 + 14), .ref (rs0 + 25)])) := by rw [← hF1_]; exact ev_up_s
  refine ev_aload_n (pc := 39) d_P_init_39 rfl ?_
  refine ev_fresh fun fr40 => ?_
  refine ev_new (pc := 40) 3 [.null, .null] d_P_init_40 ck_3 wd_97 wd_98 wd_7 (by decide +kernel) (bc2 := rc40) (bs2 := rs40) hb_rc40 hs_rs40 (fun F3_ hF3_ => ?_)
  have g4_ : F3_ rs0 = some (.inr (0, [.ref (rs0 + 1), .ref (rs0 + 4), .int irs0_draftWords, .ref rs1, .ref (rs0 + 7), .ref (rs0 + 10), .ref (rs0 + 11), .ref (rs0 + 14), .ref (rs0 + 25)])) := by rw [← hF3_]; exact ev_up_k (ev_nf g2_ (fr40 _ (Nat.le_refl _))) g2_
  have g5_ : F3_ n = some (.inr (3, [.null, .null])) := by rw [← hF3_]; exact ev_up_s
  refine ev_dup (pc := 43) d_P_init_43 rfl ?_
  exact ev_init (pc := 44) (As := []) (st := [.ref n, .ref r0]) (Q2 := Q44) M_Sh_init d_P_init_44 lc_P_33 rfl rfl wd_100 rfl rfl (Nat.le_of_ble_eq_true rfl) (Nat.le_of_ble_eq_true rfl) (Nat.le_of_ble_eq_true rfl) hb_rc44 hs_rs44 (by subst hF1_ hF3_; exact c44_0) k47_1

set_option maxRecDepth 100000 in
set_option maxHeartbeats 4000000 in
theorem s_P_init_47 {l : Launch} {X : ev_X} {bc bs n : Nat} {F : ev_H} {Q : Option Value → Nat → ev_H → Prop} {r0 : Nat} {rs0 : Nat} {rs1 : Nat} {irs0_draftWords : Int32} {rc51 : Nat} {rs51 : Nat} {Q55 : Option Value → Nat → ev_H → Prop} {bc55 : Nat} {bs55 : Nat} {rc55 : Nat} {rs55 : Nat} (h_rs0 : F rs0 = some (psO rs0 irs0_draftWords)) (hb_rc51 : rc51 + 1 ≤ bc) (hs_rs51 : rs51 + 3 ≤ bs) (hb_rc55 : rc55 + bc55 ≤ rc51) (hs_rs55 : rs55 + bs55 ≤ rs51)
    (c55_0 : Cal l X M_Ma_init bc55 bs55 [.ref n] (n + 1) (ev_up (ev_up F rs0 (.inr (0, [.ref (rs0 + 1), .ref (rs0 + 4), .int irs0_draftWords, .ref (rs0 + 5), .ref rs1, .ref (rs0 + 10), .ref (rs0 + 11), .ref (rs0 + 14), .ref (rs0 + 25)]))) n (.inr (4, [.int 0, .int 0, .int 0]))) Q55)
    (k58_1 : ∀ v2 n2 F2, Q55 v2 n2 F2 → Ev l X M_P_init rc55 rs55 58 [(0, .ref r0)] (v2.toList ++ [.ref n, .ref r0]) n2 F2 (ev_mq X Q)) :
    Ev l X M_P_init bc bs 47 [(0, .ref r0)] [.ref rs1, .ref rs0] n F (ev_mq X Q) := by
  refine ev_putfield (pc := 47) 4 _ d_P_init_47 fl_P_34 h_rs0 (ev_pfn (r0 := rC0) (ty := (.object "PostingShelf$Shelf")) rfl (Or.inr ⟨rfl, rfl, rfl⟩) (by decide +kernel)) rfl rfl (Nat.le_of_ble_eq_true rfl) (fun F1_ hF1_ => ?_)
  have g2_ : F1_ rs0 = some (.inr (0, [.ref (rs0 + 1), .ref (rs0 + 4), .int irs0_draftWords, .ref (rs0 + 5), .ref rs1, .ref (rs0 + 10), .ref (rs0 + 11), .ref (rs0 + 14), .ref (rs0 + 25)])) := by rw [← hF1_]; exact ev_up_s
  refine ev_aload_n (pc := 50) d_P_init_50 rfl ?_
  refine ev_fresh fun fr51 => ?_
  refine ev_new (pc := 51) 4 [.int 0, .int 0, .int 0] d_P_init_51 ck_4 wd_114 wd_115 wd_8 (by decide +kernel) (bc2 := rc51) (bs2 := rs51) hb_rc51 hs_rs51 (fun F3_ hF3_ => ?_)
  have g4_ : F3_ rs0 = some (.inr (0, [.ref (rs0 + 1), .ref (rs0 + 4), .int irs0_draftWords, .ref (rs0 + 5), .ref rs1, .ref (rs0 + 10), .ref (rs0 + 11), .ref (rs0 + 14), .ref (rs0 + 25)])) := by rw [← hF3_]; exact ev_up_k (ev_nf g2_ (fr51 _ (Nat.le_refl _))) g2_
  have g5_ : F3_ n = some (.inr (4, [.int 0, .int 0, .int 0])) := by rw [← hF3_]; exact ev_up_s
  refine ev_dup (pc := 54) d_P_init_54 rfl ?_
  exact ev_init (pc := 55) (As := []) (st := [.ref n, .ref r0]) (Q2 := Q55) M_Ma_init d_P_init_55 lc_P_40 rfl rfl wd_117 rfl rfl (Nat.le_of_ble_eq_true rfl) (Nat.le_of_ble_eq_true rfl) (Nat.le_of_ble_eq_true rfl) hb_rc55 hs_rs55 (by subst hF1_ hF3_; exact c55_0) k58_1

set_option maxRecDepth 100000 in
set_option maxHeartbeats 4000000 in
theorem s_P_init_58 {l : Launch} {X : ev_X} {bc bs n : Nat} {F : ev_H} {Q : Option Value → Nat → ev_H → Prop} {r0 : Nat} {rs0 : Nat} {rs1 : Nat} {irs0_draftWords : Int32} {rc62 : Nat} {rs62 : Nat} {Q66 : Option Value → Nat → ev_H → Prop} {bc66 : Nat} {bs66 : Nat} {rc66 : Nat} {rs66 : Nat} (h_rs0 : F rs0 = some (psO rs0 irs0_draftWords)) (hb_rc62 : rc62 + 1 ≤ bc) (hs_rs62 : rs62 + 3 ≤ bs) (hb_rc66 : rc66 + bc66 ≤ rc62) (hs_rs66 : rs66 + bs66 ≤ rs62)
    (c66_0 : Cal l X M_Qs_init bc66 bs66 [.ref n] (n + 1) (ev_up (ev_up F rs0 (.inr (0, [.ref (rs0 + 1), .ref (rs0 + 4), .int irs0_draftWords, .ref (rs0 + 5), .ref (rs0 + 7), .ref rs1, .ref (rs0 + 11), .ref (rs0 + 14), .ref (rs0 + 25)]))) n (.inr (5, [.null, .null, .int 0]))) Q66)
    (k69_1 : ∀ v2 n2 F2, Q66 v2 n2 F2 → Ev l X M_P_init rc66 rs66 69 [(0, .ref r0)] (v2.toList ++ [.ref n, .ref r0]) n2 F2 (ev_mq X Q)) :
    Ev l X M_P_init bc bs 58 [(0, .ref r0)] [.ref rs1, .ref rs0] n F (ev_mq X Q) := by
  refine ev_putfield (pc := 58) 5 _ d_P_init_58 fl_P_41 h_rs0 (ev_pfn (r0 := rC0) (ty := (.object "PostingShelf$Machine")) rfl (Or.inr ⟨rfl, rfl, rfl⟩) (by decide +kernel)) rfl rfl (Nat.le_of_ble_eq_true rfl) (fun F1_ hF1_ => ?_)
  have g2_ : F1_ rs0 = some (.inr (0, [.ref (rs0 + 1), .ref (rs0 + 4), .int irs0_draftWords, .ref (rs0 + 5), .ref (rs0 + 7), .ref rs1, .ref (rs0 + 11), .ref (rs0 + 14), .ref (rs0 + 25)])) := by rw [← hF1_]; exact ev_up_s
  refine ev_aload_n (pc := 61) d_P_init_61 rfl ?_
  refine ev_fresh fun fr62 => ?_
  refine ev_new (pc := 62) 5 [.null, .null, .int 0] d_P_init_62 ck_5 wd_133 wd_134 wd_9 (by decide +kernel) (bc2 := rc62) (bs2 := rs62) hb_rc62 hs_rs62 (fun F3_ hF3_ => ?_)
  have g4_ : F3_ rs0 = some (.inr (0, [.ref (rs0 + 1), .ref (rs0 + 4), .int irs0_draftWords, .ref (rs0 + 5), .ref (rs0 + 7), .ref rs1, .ref (rs0 + 11), .ref (rs0 + 14), .ref (rs0 + 25)])) := by rw [← hF3_]; exact ev_up_k (ev_nf g2_ (fr62 _ (Nat.le_refl _))) g2_
  have g5_ : F3_ n = some (.inr (5, [.null, .null, .int 0])) := by rw [← hF3_]; exact ev_up_s
  refine ev_dup (pc := 65) d_P_init_65 rfl ?_
  exact ev_init (pc := 66) (As := []) (st := [.ref n, .ref r0]) (Q2 := Q66) M_Qs_init d_P_init_66 lc_P_47 rfl rfl wd_136 rfl rfl (Nat.le_of_ble_eq_true rfl) (Nat.le_of_ble_eq_true rfl) (Nat.le_of_ble_eq_true rfl) hb_rc66 hs_rs66 (by subst hF1_ hF3_; exact c66_0) k69_1

set_option maxRecDepth 100000 in
set_option maxHeartbeats 4000000 in
theorem s_P_init_69 {l : Launch} {X : ev_X} {bc bs n : Nat} {F : ev_H} {Q : Option Value → Nat → ev_H → Prop} {r0 : Nat} {rs0 : Nat} {rs1 : Nat} {irs0_draftWords : Int32} {rc73 : Nat} {rs73 : Nat} {Q77 : Option Value → Nat → ev_H → Prop} {bc77 : Nat} {bs77 : Nat} {rc77 : Nat} {rs77 : Nat} (h_rs0 : F rs0 = some (psO rs0 irs0_draftWords)) (hb_rc73 : rc73 + 1 ≤ bc) (hs_rs73 : rs73 + 4 ≤ bs) (hb_rc77 : rc77 + bc77 ≤ rc73) (hs_rs77 : rs77 + bs77 ≤ rs73)
    (c77_0 : Cal l X M_Ra_init bc77 bs77 [.ref n] (n + 1) (ev_up (ev_up F rs0 (.inr (0, [.ref (rs0 + 1), .ref (rs0 + 4), .int irs0_draftWords, .ref (rs0 + 5), .ref (rs0 + 7), .ref (rs0 + 10), .ref rs1, .ref (rs0 + 14), .ref (rs0 + 25)]))) n (.inr (6, [.null, .null, .int 0, .int 0]))) Q77)
    (k80_1 : ∀ v2 n2 F2, Q77 v2 n2 F2 → Ev l X M_P_init rc77 rs77 80 [(0, .ref r0)] (v2.toList ++ [.ref n, .ref r0]) n2 F2 (ev_mq X Q)) :
    Ev l X M_P_init bc bs 69 [(0, .ref r0)] [.ref rs1, .ref rs0] n F (ev_mq X Q) := by
  refine ev_putfield (pc := 69) 6 _ d_P_init_69 fl_P_48 h_rs0 (ev_pfn (r0 := rC0) (ty := (.object "PostingShelf$QueryStack")) rfl (Or.inr ⟨rfl, rfl, rfl⟩) (by decide +kernel)) rfl rfl (Nat.le_of_ble_eq_true rfl) (fun F1_ hF1_ => ?_)
  have g2_ : F1_ rs0 = some (.inr (0, [.ref (rs0 + 1), .ref (rs0 + 4), .int irs0_draftWords, .ref (rs0 + 5), .ref (rs0 + 7), .ref (rs0 + 10), .ref rs1, .ref (rs0 + 14), .ref (rs0 + 25)])) := by rw [← hF1_]; exact ev_up_s
  refine ev_aload_n (pc := 72) d_P_init_72 rfl ?_
  refine ev_fresh fun fr73 => ?_
  refine ev_new (pc := 73) 6 [.null, .null, .int 0, .int 0] d_P_init_73 ck_6 wd_154 wd_155 wd_10 (by decide +kernel) (bc2 := rc73) (bs2 := rs73) hb_rc73 hs_rs73 (fun F3_ hF3_ => ?_)
  have g4_ : F3_ rs0 = some (.inr (0, [.ref (rs0 + 1), .ref (rs0 + 4), .int irs0_draftWords, .ref (rs0 + 5), .ref (rs0 + 7), .ref (rs0 + 10), .ref rs1, .ref (rs0 + 14), .ref (rs0 + 25)])) := by rw [← hF3_]; exact ev_up_k (ev_nf g2_ (fr73 _ (Nat.le_refl _))) g2_
  have g5_ : F3_ n = some (.inr (6, [.null, .null, .int 0, .int 0])) := by rw [← hF3_]; exact ev_up_s
  refine ev_dup (pc := 76) d_P_init_76 rfl ?_
  exact ev_init (pc := 77) (As := []) (st := [.ref n, .ref r0]) (Q2 := Q77) M_Ra_init d_P_init_77 lc_P_54 rfl rfl wd_157 rfl rfl (Nat.le_of_ble_eq_true rfl) (Nat.le_of_ble_eq_true rfl) (Nat.le_of_ble_eq_true rfl) hb_rc77 hs_rs77 (by subst hF1_ hF3_; exact c77_0) k80_1

set_option maxRecDepth 100000 in
set_option maxHeartbeats 4000000 in
theorem s_P_init_80 {l : Launch} {X : ev_X} {bc bs n : Nat} {F : ev_H} {Q : Option Value → Nat → ev_H → Prop} {r0 : Nat} {rs0 : Nat} {rs1 : Nat} {irs0_draftWords : Int32} {rc84 : Nat} {rs84 : Nat} {Q88 : Option Value → Nat → ev_H → Prop} {bc88 : Nat} {bs88 : Nat} {rc88 : Nat} {rs88 : Nat} (h_rs0 : F rs0 = some (psO rs0 irs0_draftWords)) (hb_rc84 : rc84 + 1 ≤ bc) (hs_rs84 : rs84 + 3 ≤ bs) (hb_rc88 : rc88 + bc88 ≤ rc84) (hs_rs88 : rs88 + bs88 ≤ rs84)
    (c88_0 : Cal l X M_Re_init bc88 bs88 [.ref n] (n + 1) (ev_up (ev_up F rs0 (.inr (0, [.ref (rs0 + 1), .ref (rs0 + 4), .int irs0_draftWords, .ref (rs0 + 5), .ref (rs0 + 7), .ref (rs0 + 10), .ref (rs0 + 11), .ref rs1, .ref (rs0 + 25)]))) n (.inr (7, [.null, .null, .int 0]))) Q88)
    (k91_1 : ∀ v2 n2 F2, Q88 v2 n2 F2 → Ev l X M_P_init rc88 rs88 91 [(0, .ref r0)] (v2.toList ++ [.ref n, .ref r0]) n2 F2 (ev_mq X Q)) :
    Ev l X M_P_init bc bs 80 [(0, .ref r0)] [.ref rs1, .ref rs0] n F (ev_mq X Q) := by
  refine ev_putfield (pc := 80) 7 _ d_P_init_80 fl_P_55 h_rs0 (ev_pfn (r0 := rC0) (ty := (.object "PostingShelf$Ranking")) rfl (Or.inr ⟨rfl, rfl, rfl⟩) (by decide +kernel)) rfl rfl (Nat.le_of_ble_eq_true rfl) (fun F1_ hF1_ => ?_)
  have g2_ : F1_ rs0 = some (.inr (0, [.ref (rs0 + 1), .ref (rs0 + 4), .int irs0_draftWords, .ref (rs0 + 5), .ref (rs0 + 7), .ref (rs0 + 10), .ref (rs0 + 11), .ref rs1, .ref (rs0 + 25)])) := by rw [← hF1_]; exact ev_up_s
  refine ev_aload_n (pc := 83) d_P_init_83 rfl ?_
  refine ev_fresh fun fr84 => ?_
  refine ev_new (pc := 84) 7 [.null, .null, .int 0] d_P_init_84 ck_7 wd_176 wd_177 wd_11 (by decide +kernel) (bc2 := rc84) (bs2 := rs84) hb_rc84 hs_rs84 (fun F3_ hF3_ => ?_)
  have g4_ : F3_ rs0 = some (.inr (0, [.ref (rs0 + 1), .ref (rs0 + 4), .int irs0_draftWords, .ref (rs0 + 5), .ref (rs0 + 7), .ref (rs0 + 10), .ref (rs0 + 11), .ref rs1, .ref (rs0 + 25)])) := by rw [← hF3_]; exact ev_up_k (ev_nf g2_ (fr84 _ (Nat.le_refl _))) g2_
  have g5_ : F3_ n = some (.inr (7, [.null, .null, .int 0])) := by rw [← hF3_]; exact ev_up_s
  refine ev_dup (pc := 87) d_P_init_87 rfl ?_
  exact ev_init (pc := 88) (As := []) (st := [.ref n, .ref r0]) (Q2 := Q88) M_Re_init d_P_init_88 lc_P_61 rfl rfl wd_179 rfl rfl (Nat.le_of_ble_eq_true rfl) (Nat.le_of_ble_eq_true rfl) (Nat.le_of_ble_eq_true rfl) hb_rc88 hs_rs88 (by subst hF1_ hF3_; exact c88_0) k91_1

set_option maxRecDepth 100000 in
set_option maxHeartbeats 4000000 in
theorem s_P_init_91 {l : Launch} {X : ev_X} {bc bs n : Nat} {F : ev_H} {Q : Option Value → Nat → ev_H → Prop} {r0 : Nat} {rs0 : Nat} {rs1 : Nat} {irs0_draftWords : Int32} (h_rs0 : F rs0 = some (psO rs0 irs0_draftWords))
    (q94_0 : Q none n (ev_up F rs0 (.inr (0, [.ref (rs0 + 1), .ref (rs0 + 4), .int irs0_draftWords, .ref (rs0 + 5), .ref (rs0 + 7), .ref (rs0 + 10), .ref (rs0 + 11), .ref (rs0 + 14), .ref rs1])))) :
    Ev l X M_P_init bc bs 91 [(0, .ref r0)] [.ref rs1, .ref rs0] n F (ev_mq X Q) := by
  refine ev_putfield (pc := 91) 8 _ d_P_init_91 fl_P_62 h_rs0 (ev_pfn (r0 := rC0) (ty := (.object "PostingShelf$Results")) rfl (Or.inr ⟨rfl, rfl, rfl⟩) (by decide +kernel)) rfl rfl (Nat.le_of_ble_eq_true rfl) (fun F1_ hF1_ => ?_)
  have g2_ : F1_ rs0 = some (.inr (0, [.ref (rs0 + 1), .ref (rs0 + 4), .int irs0_draftWords, .ref (rs0 + 5), .ref (rs0 + 7), .ref (rs0 + 10), .ref (rs0 + 11), .ref (rs0 + 14), .ref rs1])) := by rw [← hF1_]; exact ev_up_s
  exact ev_return (pc := 94) d_P_init_94 rfl (by subst hF1_; exact q94_0)
set_option maxRecDepth 100000 in
set_option maxHeartbeats 4000000 in
theorem s_P_stem_0 {l : Launch} {X : ev_X} {bc bs n : Nat} {F : ev_H} {Q : Option Value → Nat → ev_H → Prop} {r0 : Nat} {j1 : Int64} {v1 : Int32} {ir0_draftWords : Int32} {ir0p1_length : Int32} {Q12 : Option Value → Nat → ev_H → Prop} {bc12 : Nat} {bs12 : Nat} {rc12 : Nat} {rs12 : Nat} (h_r0 : F r0 = some (psO r0 ir0_draftWords)) (h_r0p1 : F (r0 + 1) = some (.inr (1, [.ref ((r0 + 1) + 1), .ref ((r0 + 1) + 2), .int ir0p1_length]))) (hb_rc12 : rc12 + bc12 ≤ bc) (hs_rs12 : rs12 + bs12 ≤ bs)
    (c1_0 : Cal l X M_St_isWord 0 0 [.long j1] n F (ev_pure (.int v1) n F))
    (q19_1 : (v1 = 0) → Q (some (.long 0)) n F)
    (c12_2 : (¬ v1 = 0) → Cal l X M_St_stemOf bc12 bs12 [.ref (r0 + 1), .long j1] n F Q12)
    (k15_3 : (¬ v1 = 0) → ∀ v2 n2 F2, Q12 v2 n2 F2 → Ev l X M_P_stem rc12 rs12 15 [(0, .ref r0), (1, .long j1)] (v2.toList ++ []) n2 F2 (ev_mq X Q)) :
    Ev l X M_P_stem bc bs 0 [(0, .ref r0), (1, .long j1)] [] n F (ev_mq X Q) := by
  refine ev_lload_n (pc := 0) d_P_stem_0 rfl ?_
  refine ev_invokestatic (pc := 1) (As := [.long j1]) (st := []) (Q2 := ev_pure (.int v1) n F) (bc1 := 0) (bs1 := 0) M_St_isWord d_P_stem_1 lc_P_66 wd_228 rfl rfl (Nat.le_of_ble_eq_true rfl) (Nat.le_of_ble_eq_true rfl) (Nat.le_of_ble_eq_true rfl) (Nat.le_refl _) (Nat.le_refl _) c1_0 ?_
  refine ev_purek ?_
  refine ev_if_eq (pc := 4) 18 d_P_stem_4 (by decide) (fun c4 => ?_) (fun c4 => ?_)
  · refine ev_lconst (pc := 18) 0 d_P_stem_18 (by decide) ?_
    exact ev_lreturn (pc := 19) d_P_stem_19 rfl (q19_1 c4)
  · refine ev_aload_n (pc := 7) d_P_stem_7 rfl ?_
    refine ev_getfield (pc := 8) 0 d_P_stem_8 fl_P_10 h_r0 rfl ?_
    refine ev_lload_n (pc := 11) d_P_stem_11 rfl ?_
    exact ev_invokevirtual (pc := 12) (As := [.long j1]) (st := []) (Q2 := Q12) M_St_stemOf rC1 d_P_stem_12 lc_P_70 wd_233 wd_234 rfl h_r0p1 rfl rfl (Nat.le_of_ble_eq_true rfl) (Nat.le_of_ble_eq_true rfl) (Nat.le_of_ble_eq_true rfl) hb_rc12 hs_rs12 (c12_2 c4) (k15_3 c4)

set_option maxRecDepth 100000 in
set_option maxHeartbeats 4000000 in
theorem s_P_stem_15 {l : Launch} {X : ev_X} {bc bs n : Nat} {F : ev_H} {Q : Option Value → Nat → ev_H → Prop} {r0 : Nat} {j1 : Int64} {js0 : Int64} 
    (q19_0 : Q (some (.long js0)) n F) :
    Ev l X M_P_stem bc bs 15 [(0, .ref r0), (1, .long j1)] [.long js0] n F (ev_mq X Q) := by
  refine ev_goto (pc := 15) 19 d_P_stem_15 (by decide) ?_
  exact ev_lreturn (pc := 19) d_P_stem_19 rfl q19_0
set_option maxRecDepth 100000 in
set_option maxHeartbeats 4000000 in
theorem s_P_feed_0 {l : Launch} {X : ev_X} {bc bs n : Nat} {F : ev_H} {Q : Option Value → Nat → ev_H → Prop} {r0 : Nat} {j1 : Int64} {ir0_draftWords : Int32} {ir0p10_blocksWritten : Int32} {ir0p10_blocksToStop : Int32} {ir0p10_stopped : Int32} {v14 : Int32} {ir0p1_length : Int32} {Q44 : Option Value → Nat → ev_H → Prop} {bc44 : Nat} {bs44 : Nat} {rc44 : Nat} {rs44 : Nat} (h_r0 : F r0 = some (psO r0 ir0_draftWords)) (h_r0p10 : F (r0 + 10) = some (.inr (4, [.int ir0p10_blocksWritten, .int ir0p10_blocksToStop, .int ir0p10_stopped]))) (h_r0p1 : F (r0 + 1) = some (.inr (1, [.ref ((r0 + 1) + 1), .ref ((r0 + 1) + 2), .int ir0p1_length]))) (hb_rc44 : rc44 + bc44 ≤ bc) (hs_rs44 : rs44 + bs44 ≤ bs)
    (c14_0 : (ir0p10_stopped = 0) → Cal l X M_St_isWord 0 0 [.long j1] n F (ev_pure (.int v14) n F))
    (q30_1 : (ir0p10_stopped = 0) → (v14 = 0) → Q (some (.int (-1))) n F)
    (c44_2 : (ir0p10_stopped = 0) → (¬ v14 = 0) → (ir0_draftWords < 12) → Cal l X M_St_termOf bc44 bs44 [.ref (r0 + 1), .long j1] n F Q44)
    (k47_3 : (ir0p10_stopped = 0) → (¬ v14 = 0) → (ir0_draftWords < 12) → ∀ v2 n2 F2, Q44 v2 n2 F2 → Ev l X M_P_feed rc44 rs44 47 [(0, .ref r0), (1, .long j1)] (v2.toList ++ [.int ir0_draftWords, .ref (r0 + 4)]) n2 F2 (ev_mq X Q))
    (q30_4 : (ir0p10_stopped = 0) → (¬ v14 = 0) → (¬ ir0_draftWords < 12) → Q (some (.int (-1))) n F)
    (q12_5 : (¬ ir0p10_stopped = 0) → Q (some (.int (-9))) n F) :
    Ev l X M_P_feed bc bs 0 [(0, .ref r0), (1, .long j1)] [] n F (ev_mq X Q) := by
  refine ev_aload_n (pc := 0) d_P_feed_0 rfl ?_
  refine ev_getfield (pc := 1) 5 d_P_feed_1 fl_P_41 h_r0 rfl ?_
  refine ev_getfield (pc := 4) 2 d_P_feed_4 fl_P_74 h_r0p10 rfl ?_
  refine ev_if_eq (pc := 7) 13 d_P_feed_7 (by decide) (fun c7 => ?_) (fun c7 => ?_)
  · refine ev_lload_n (pc := 13) d_P_feed_13 rfl ?_
    refine ev_invokestatic (pc := 14) (As := [.long j1]) (st := []) (Q2 := ev_pure (.int v14) n F) (bc1 := 0) (bs1 := 0) M_St_isWord d_P_feed_14 lc_P_66 wd_228 rfl rfl (Nat.le_of_ble_eq_true rfl) (Nat.le_of_ble_eq_true rfl) (Nat.le_of_ble_eq_true rfl) (Nat.le_refl _) (Nat.le_refl _) (c14_0 c7) ?_
    refine ev_purek ?_
    refine ev_if_eq (pc := 17) 29 d_P_feed_17 (by decide) (fun c17 => ?_) (fun c17 => ?_)
    · refine ev_iconst (pc := 29) (-1) d_P_feed_29 (by decide) ?_
      exact ev_ireturn (pc := 30) d_P_feed_30 rfl rfl (q30_1 c7 c17)
    · refine ev_aload_n (pc := 20) d_P_feed_20 rfl ?_
      refine ev_getfield (pc := 21) 2 d_P_feed_21 fl_P_20 h_r0 rfl ?_
      refine ev_bipush (pc := 24) 12 d_P_feed_24 (by decide) ?_
      refine ev_icmp_lt (pc := 26) 31 d_P_feed_26 (by decide) (fun c26 => ?_) (fun c26 => ?_)
      · refine ev_aload_n (pc := 31) d_P_feed_31 rfl ?_
        refine ev_getfield (pc := 32) 1 d_P_feed_32 fl_P_16 h_r0 rfl ?_
        refine ev_aload_n (pc := 35) d_P_feed_35 rfl ?_
        refine ev_getfield (pc := 36) 2 d_P_feed_36 fl_P_20 h_r0 rfl ?_
        refine ev_aload_n (pc := 39) d_P_feed_39 rfl ?_
        refine ev_getfield (pc := 40) 0 d_P_feed_40 fl_P_10 h_r0 rfl ?_
        refine ev_lload_n (pc := 43) d_P_feed_43 rfl ?_
        exact ev_invokevirtual (pc := 44) (As := [.long j1]) (st := [.int ir0_draftWords, .ref (r0 + 4)]) (Q2 := Q44) M_St_termOf rC1 d_P_feed_44 lc_P_78 wd_412 wd_413 rfl h_r0p1 rfl rfl (Nat.le_of_ble_eq_true rfl) (Nat.le_of_ble_eq_true rfl) (Nat.le_of_ble_eq_true rfl) hb_rc44 hs_rs44 (c44_2 c7 c17 c26) (k47_3 c7 c17 c26)
      · refine ev_iconst (pc := 29) (-1) d_P_feed_29 (by decide) ?_
        exact ev_ireturn (pc := 30) d_P_feed_30 rfl rfl (q30_4 c7 c17 c26)
  · refine ev_bipush (pc := 10) (-9) d_P_feed_10 (by decide) ?_
    exact ev_ireturn (pc := 12) d_P_feed_12 rfl rfl (q12_5 c7)

set_option maxRecDepth 100000 in
set_option maxHeartbeats 4000000 in
theorem s_P_feed_47 {l : Launch} {X : ev_X} {bc bs n : Nat} {F : ev_H} {Q : Option Value → Nat → ev_H → Prop} {r0 : Nat} {j1 : Int64} {rs0 : Nat} {is1 : Int32} {js2 : Int64} {rs0_n : Nat} {rs0_f : Nat → Int64} {ir0_draftWords : Int32} (h_rs0 : F rs0 = some (.inl (1, rs0_n, .inr (.inl rs0_f)))) (h_r0 : F r0 = some (psO r0 ir0_draftWords))
    (in47_0 : vp_in is1 rs0_n)
    (q62_1 : Q (some (.int (ir0_draftWords + 1))) n (ev_up (ev_up F rs0 (.inl (1, rs0_n, .inr (.inl (vp_updL rs0_f is1.toNatClampNeg js2))))) r0 (psO r0 (ir0_draftWords + 1)))) :
    Ev l X M_P_feed bc bs 47 [(0, .ref r0), (1, .long j1)] [.long js2, .int is1, .ref rs0] n F (ev_mq X Q) := by
  refine ev_lastore (pc := 47) d_P_feed_47 h_rs0 rfl in47_0 (fun F1_ hF1_ => ?_)
  have g2_ : F1_ rs0 = some (.inl (1, rs0_n, .inr (.inl (vp_updL rs0_f is1.toNatClampNeg js2)))) := by rw [← hF1_]; exact ev_up_s
  refine ev_aload_n (pc := 48) d_P_feed_48 rfl ?_
  refine ev_dup (pc := 49) d_P_feed_49 rfl ?_
  have g3_ : F1_ r0 = some (psO r0 ir0_draftWords) := by rw [← hF1_]; exact ev_up_k (ev_ne_oa h_r0 h_rs0) h_r0
  refine ev_getfield (pc := 50) 2 d_P_feed_50 fl_P_20 g3_ rfl ?_
  refine ev_iconst (pc := 53) 1 d_P_feed_53 (by decide) ?_
  refine ev_iadd (pc := 54) d_P_feed_54 ?_
  refine ev_putfield (pc := 55) 2 _ d_P_feed_55 fl_P_20 g3_ pf_0_draftWords rfl rfl (Nat.le_of_ble_eq_true rfl) (fun F4_ hF4_ => ?_)
  have g5_ : F4_ rs0 = some (.inl (1, rs0_n, .inr (.inl (vp_updL rs0_f is1.toNatClampNeg js2)))) := by rw [← hF4_]; exact ev_up_k (ev_ne_ao g2_ g3_) g2_
  have g6_ : F4_ r0 = some (psO r0 (ir0_draftWords + 1)) := by rw [← hF4_]; exact ev_up_s
  refine ev_aload_n (pc := 58) d_P_feed_58 rfl ?_
  refine ev_getfield (pc := 59) 2 d_P_feed_59 fl_P_20 g6_ rfl ?_
  exact ev_ireturn (pc := 62) d_P_feed_62 rfl rfl (by subst hF1_ hF4_; exact q62_1)
set_option maxRecDepth 100000 in
set_option maxHeartbeats 4000000 in
theorem s_P_add_0 {l : Launch} {X : ev_X} {bc bs n : Nat} {F : ev_H} {Q : Option Value → Nat → ev_H → Prop} {r0 : Nat} {i1 : Int32} {ir0_draftWords : Int32} {ir0p10_blocksWritten : Int32} {ir0p10_blocksToStop : Int32} {ir0p10_stopped : Int32} {v14 : Int32} {rc26 : Nat} {rs26 : Nat} {Q39 : Option Value → Nat → ev_H → Prop} {bc39 : Nat} {bs39 : Nat} {rc39 : Nat} {rs39 : Nat} (h_r0 : F r0 = some (psO r0 ir0_draftWords)) (h_r0p10 : F (r0 + 10) = some (.inr (4, [.int ir0p10_blocksWritten, .int ir0p10_blocksToStop, .int ir0p10_stopped]))) (hb_rc26 : rc26 + 1 ≤ bc) (hs_rs26 : rs26 + 2 ≤ bs) (hb_rc39 : rc39 + bc39 ≤ rc26) (hs_rs39 : rs39 + bs39 ≤ rs26)
    (c14_0 : (ir0p10_stopped = 0) → Cal l X M_P_isId 0 0 [.int i1] n F (ev_pure (.int v14) n F))
    (c39_1 : (ir0p10_stopped = 0) → (¬ v14 = 0) → Cal l X M_Arr_copyOf bc39 bs39 [.ref (r0 + 4), .int ir0_draftWords] (n + 1) (ev_up F n (.inr (8, [.int 0, .null]))) Q39)
    (k42_2 : (ir0p10_stopped = 0) → (¬ v14 = 0) → ∀ v2 n2 F2, Q39 v2 n2 F2 → Ev l X M_P_add rc39 rs39 42 [(0, .ref r0), (1, .int i1)] (v2.toList ++ [.int i1, .ref n, .ref n, .ref (r0 + 5)]) n2 F2 (ev_mq X Q))
    (q21_3 : (ir0p10_stopped = 0) → (v14 = 0) → Q (some (.int (-1))) n F)
    (q12_4 : (¬ ir0p10_stopped = 0) → Q (some (.int (-9))) n F) :
    Ev l X M_P_add bc bs 0 [(0, .ref r0), (1, .int i1)] [] n F (ev_mq X Q) := by
  refine ev_aload_n (pc := 0) d_P_add_0 rfl ?_
  refine ev_getfield (pc := 1) 5 d_P_add_1 fl_P_41 h_r0 rfl ?_
  refine ev_getfield (pc := 4) 2 d_P_add_4 fl_P_74 h_r0p10 rfl ?_
  refine ev_if_eq (pc := 7) 13 d_P_add_7 (by decide) (fun c7 => ?_) (fun c7 => ?_)
  · refine ev_iload_n (pc := 13) d_P_add_13 rfl ?_
    refine ev_invokestatic (pc := 14) (As := [.int i1]) (st := []) (Q2 := ev_pure (.int v14) n F) (bc1 := 0) (bs1 := 0) M_P_isId d_P_add_14 lc_P_81 wd_426 rfl rfl (Nat.le_of_ble_eq_true rfl) (Nat.le_of_ble_eq_true rfl) (Nat.le_of_ble_eq_true rfl) (Nat.le_refl _) (Nat.le_refl _) (c14_0 c7) ?_
    refine ev_purek ?_
    refine ev_if_ne (pc := 17) 22 d_P_add_17 (by decide) (fun c17 => ?_) (fun c17 => ?_)
    · refine ev_aload_n (pc := 22) d_P_add_22 rfl ?_
      refine ev_getfield (pc := 23) 3 d_P_add_23 fl_P_27 h_r0 rfl ?_
      refine ev_fresh fun fr26 => ?_
      refine ev_new (pc := 26) 8 [.int 0, .null] d_P_add_26 ck_8 wd_428 wd_429 wd_19 (by decide +kernel) (bc2 := rc26) (bs2 := rs26) hb_rc26 hs_rs26 (fun F1_ hF1_ => ?_)
      have g2_ : F1_ r0 = some (psO r0 ir0_draftWords) := by rw [← hF1_]; exact ev_up_k (ev_nf h_r0 (fr26 _ (Nat.le_refl _))) h_r0
      have g3_ : F1_ (r0 + 10) = some (.inr (4, [.int ir0p10_blocksWritten, .int ir0p10_blocksToStop, .int ir0p10_stopped])) := by rw [← hF1_]; exact ev_up_k (ev_nf h_r0p10 (fr26 _ (Nat.le_refl _))) h_r0p10
      have g4_ : F1_ n = some (.inr (8, [.int 0, .null])) := by rw [← hF1_]; exact ev_up_s
      refine ev_dup (pc := 29) d_P_add_29 rfl ?_
      refine ev_iload_n (pc := 30) d_P_add_30 rfl ?_
      refine ev_aload_n (pc := 31) d_P_add_31 rfl ?_
      refine ev_getfield (pc := 32) 1 d_P_add_32 fl_P_16 g2_ rfl ?_
      refine ev_aload_n (pc := 35) d_P_add_35 rfl ?_
      refine ev_getfield (pc := 36) 2 d_P_add_36 fl_P_20 g2_ rfl ?_
      exact ev_invokestatic (pc := 39) (As := [.ref (r0 + 4), .int ir0_draftWords]) (st := [.int i1, .ref n, .ref n, .ref (r0 + 5)]) (Q2 := Q39) M_Arr_copyOf d_P_add_39 lc_P_87 wd_431 rfl rfl (Nat.le_of_ble_eq_true rfl) (Nat.le_of_ble_eq_true rfl) (Nat.le_of_ble_eq_true rfl) hb_rc39 hs_rs39 (by subst hF1_; exact (c39_1 c7 c17)) (k42_2 c7 c17)
    · refine ev_iconst (pc := 20) (-1) d_P_add_20 (by decide) ?_
      exact ev_ireturn (pc := 21) d_P_add_21 rfl rfl (q21_3 c7 c17)
  · refine ev_bipush (pc := 10) (-9) d_P_add_10 (by decide) ?_
    exact ev_ireturn (pc := 12) d_P_add_12 rfl rfl (q12_4 c7)

set_option maxRecDepth 100000 in
set_option maxHeartbeats 4000000 in
theorem s_P_add_42 {l : Launch} {X : ev_X} {bc bs n : Nat} {F : ev_H} {Q : Option Value → Nat → ev_H → Prop} {r0 : Nat} {i1 : Int32} {rs0 : Nat} {rs1 : Nat} {rs2 : Nat} {is3 : Int32} {rs4 : Nat} {Q42 : Option Value → Nat → ev_H → Prop} {bc42 : Nat} {bs42 : Nat} {rc42 : Nat} {rs42 : Nat} (hb_rc42 : rc42 + bc42 ≤ bc) (hs_rs42 : rs42 + bs42 ≤ bs)
    (c42_0 : Cal l X M_D_init bc42 bs42 [.ref rs2, .int is3, .ref rs4] n F Q42)
    (k45_1 : ∀ v2 n2 F2, Q42 v2 n2 F2 → Ev l X M_P_add rc42 rs42 45 [(0, .ref r0), (1, .int i1)] (v2.toList ++ [.ref rs1, .ref rs0]) n2 F2 (ev_mq X Q)) :
    Ev l X M_P_add bc bs 42 [(0, .ref r0), (1, .int i1)] [.ref rs4, .int is3, .ref rs2, .ref rs1, .ref rs0] n F (ev_mq X Q) := by
  exact ev_init (pc := 42) (As := [.int is3, .ref rs4]) (st := [.ref rs1, .ref rs0]) (Q2 := Q42) M_D_init d_P_add_42 lc_P_93 rfl rfl wd_445 rfl rfl (Nat.le_of_ble_eq_true rfl) (Nat.le_of_ble_eq_true rfl) (Nat.le_of_ble_eq_true rfl) hb_rc42 hs_rs42 c42_0 k45_1

set_option maxRecDepth 100000 in
set_option maxHeartbeats 4000000 in
theorem s_P_add_45 {l : Launch} {X : ev_X} {bc bs n : Nat} {F : ev_H} {Q : Option Value → Nat → ev_H → Prop} {r0 : Nat} {i1 : Int32} {rs0 : Nat} {rs1 : Nat} {irs0_ids : Int32} {Q45 : Option Value → Nat → ev_H → Prop} {bc45 : Nat} {bs45 : Nat} {rc45 : Nat} {rs45 : Nat} (h_rs0 : F rs0 = some (.inr (2, [.ref (rs0 + 1), .int irs0_ids]))) (hb_rc45 : rc45 + bc45 ≤ bc) (hs_rs45 : rs45 + bs45 ≤ bs)
    (c45_0 : Cal l X M_Pe_putDocument bc45 bs45 [.ref rs0, .ref rs1] n F Q45)
    (k48_1 : ∀ v2 n2 F2, Q45 v2 n2 F2 → Ev l X M_P_add rc45 rs45 48 [(0, .ref r0), (1, .int i1)] (v2.toList ++ []) n2 F2 (ev_mq X Q)) :
    Ev l X M_P_add bc bs 45 [(0, .ref r0), (1, .int i1)] [.ref rs1, .ref rs0] n F (ev_mq X Q) := by
  exact ev_invokevirtual (pc := 45) (As := [.ref rs1]) (st := []) (Q2 := Q45) M_Pe_putDocument rC2 d_P_add_45 lc_P_96 wd_461 wd_462 rfl h_rs0 rfl rfl (Nat.le_of_ble_eq_true rfl) (Nat.le_of_ble_eq_true rfl) (Nat.le_of_ble_eq_true rfl) hb_rc45 hs_rs45 c45_0 k48_1

set_option maxRecDepth 100000 in
set_option maxHeartbeats 4000000 in
theorem s_P_add_48 {l : Launch} {X : ev_X} {bc bs n : Nat} {F : ev_H} {Q : Option Value → Nat → ev_H → Prop} {r0 : Nat} {i1 : Int32} {ir0_draftWords : Int32} {ir0p5_ids : Int32} {v57 : Int32} (h_r0 : F r0 = some (psO r0 ir0_draftWords)) (h_r0p5 : F (r0 + 5) = some (.inr (2, [.ref ((r0 + 5) + 1), .int ir0p5_ids])))
    (c57_0 : Cal l X M_Pe_idCount 0 0 [.ref (r0 + 5)] n (ev_up F r0 (psO r0 0)) (ev_pure (.int v57) n (ev_up F r0 (psO r0 0))))
    (q60_1 : Q (some (.int v57)) n (ev_up F r0 (psO r0 0))) :
    Ev l X M_P_add bc bs 48 [(0, .ref r0), (1, .int i1)] [] n F (ev_mq X Q) := by
  refine ev_aload_n (pc := 48) d_P_add_48 rfl ?_
  refine ev_iconst (pc := 49) 0 d_P_add_49 (by decide) ?_
  refine ev_putfield (pc := 50) 2 _ d_P_add_50 fl_P_20 h_r0 pf_0_draftWords rfl rfl (Nat.le_of_ble_eq_true rfl) (fun F1_ hF1_ => ?_)
  have g2_ : F1_ r0 = some (psO r0 0) := by rw [← hF1_]; exact ev_up_s
  refine ev_aload_n (pc := 53) d_P_add_53 rfl ?_
  refine ev_getfield (pc := 54) 3 d_P_add_54 fl_P_27 g2_ rfl ?_
  have g3_ : F1_ (r0 + 5) = some (.inr (2, [.ref ((r0 + 5) + 1), .int ir0p5_ids])) := by rw [← hF1_]; exact ev_up_k (ev_ne_oo h_r0p5 h_r0 rfl) h_r0p5
  refine ev_invokevirtual (pc := 57) (As := []) (st := []) (Q2 := ev_pure (.int v57) n F1_) (bc1 := 0) (bs1 := 0) M_Pe_idCount rC2 d_P_add_57 lc_P_100 wd_547 wd_548 rfl g3_ rfl rfl (Nat.le_of_ble_eq_true rfl) (Nat.le_of_ble_eq_true rfl) (Nat.le_of_ble_eq_true rfl) (Nat.le_refl _) (Nat.le_refl _) (by subst hF1_; exact c57_0) ?_
  refine ev_purek ?_
  exact ev_ireturn (pc := 60) d_P_add_60 rfl rfl (by subst hF1_; exact q60_1)
set_option maxRecDepth 100000 in
set_option maxHeartbeats 4000000 in
theorem s_P_isId_0 {l : Launch} {X : ev_X} {bc bs n : Nat} {F : ev_H} {Q : Option Value → Nat → ev_H → Prop} {i0 : Int32} 
    (q15_0 : (i0 < 0) → Q (some (.int 0)) n F)
    (q15_1 : (¬ i0 < 0) → (12 ≤ i0) → Q (some (.int 0)) n F)
    (q15_2 : (¬ i0 < 0) → (¬ 12 ≤ i0) → Q (some (.int 1)) n F) :
    Ev l X M_P_isId bc bs 0 [(0, .int i0)] [] n F (ev_mq X Q) := by
  refine ev_iload_n (pc := 0) d_P_isId_0 rfl ?_
  refine ev_if_lt (pc := 1) 14 d_P_isId_1 (by decide) (fun c1 => ?_) (fun c1 => ?_)
  · refine ev_iconst (pc := 14) 0 d_P_isId_14 (by decide) ?_
    exact ev_ireturn (pc := 15) d_P_isId_15 rfl rfl (q15_0 c1)
  · refine ev_iload_n (pc := 4) d_P_isId_4 rfl ?_
    refine ev_bipush (pc := 5) 12 d_P_isId_5 (by decide) ?_
    refine ev_icmp_ge (pc := 7) 14 d_P_isId_7 (by decide) (fun c7 => ?_) (fun c7 => ?_)
    · refine ev_iconst (pc := 14) 0 d_P_isId_14 (by decide) ?_
      exact ev_ireturn (pc := 15) d_P_isId_15 rfl rfl (q15_1 c1 c7)
    · refine ev_iconst (pc := 10) 1 d_P_isId_10 (by decide) ?_
      refine ev_goto (pc := 11) 15 d_P_isId_11 (by decide) ?_
      exact ev_ireturn (pc := 15) d_P_isId_15 rfl rfl (q15_2 c1 c7)
set_option maxRecDepth 100000 in
set_option maxHeartbeats 4000000 in
theorem s_P_delete_0 {l : Launch} {X : ev_X} {bc bs n : Nat} {F : ev_H} {Q : Option Value → Nat → ev_H → Prop} {r0 : Nat} {i1 : Int32} {ir0_draftWords : Int32} {ir0p10_blocksWritten : Int32} {ir0p10_blocksToStop : Int32} {ir0p10_stopped : Int32} {v14 : Int32} {ir0p5_ids : Int32} {Q27 : Option Value → Nat → ev_H → Prop} {bc27 : Nat} {bs27 : Nat} {rc27 : Nat} {rs27 : Nat} (h_r0 : F r0 = some (psO r0 ir0_draftWords)) (h_r0p10 : F (r0 + 10) = some (.inr (4, [.int ir0p10_blocksWritten, .int ir0p10_blocksToStop, .int ir0p10_stopped]))) (h_r0p5 : F (r0 + 5) = some (.inr (2, [.ref ((r0 + 5) + 1), .int ir0p5_ids]))) (hb_rc27 : rc27 + bc27 ≤ bc) (hs_rs27 : rs27 + bs27 ≤ bs)
    (c14_0 : (ir0p10_stopped = 0) → Cal l X M_P_isId 0 0 [.int i1] n F (ev_pure (.int v14) n F))
    (c27_1 : (ir0p10_stopped = 0) → (¬ v14 = 0) → Cal l X M_Pe_putDeletion bc27 bs27 [.ref (r0 + 5), .int i1] n F Q27)
    (k30_2 : (ir0p10_stopped = 0) → (¬ v14 = 0) → ∀ v2 n2 F2, Q27 v2 n2 F2 → Ev l X M_P_delete rc27 rs27 30 [(0, .ref r0), (1, .int i1)] (v2.toList ++ []) n2 F2 (ev_mq X Q))
    (q21_3 : (ir0p10_stopped = 0) → (v14 = 0) → Q (some (.int (-1))) n F)
    (q12_4 : (¬ ir0p10_stopped = 0) → Q (some (.int (-9))) n F) :
    Ev l X M_P_delete bc bs 0 [(0, .ref r0), (1, .int i1)] [] n F (ev_mq X Q) := by
  refine ev_aload_n (pc := 0) d_P_delete_0 rfl ?_
  refine ev_getfield (pc := 1) 5 d_P_delete_1 fl_P_41 h_r0 rfl ?_
  refine ev_getfield (pc := 4) 2 d_P_delete_4 fl_P_74 h_r0p10 rfl ?_
  refine ev_if_eq (pc := 7) 13 d_P_delete_7 (by decide) (fun c7 => ?_) (fun c7 => ?_)
  · refine ev_iload_n (pc := 13) d_P_delete_13 rfl ?_
    refine ev_invokestatic (pc := 14) (As := [.int i1]) (st := []) (Q2 := ev_pure (.int v14) n F) (bc1 := 0) (bs1 := 0) M_P_isId d_P_delete_14 lc_P_81 wd_426 rfl rfl (Nat.le_of_ble_eq_true rfl) (Nat.le_of_ble_eq_true rfl) (Nat.le_of_ble_eq_true rfl) (Nat.le_refl _) (Nat.le_refl _) (c14_0 c7) ?_
    refine ev_purek ?_
    refine ev_if_ne (pc := 17) 22 d_P_delete_17 (by decide) (fun c17 => ?_) (fun c17 => ?_)
    · refine ev_aload_n (pc := 22) d_P_delete_22 rfl ?_
      refine ev_getfield (pc := 23) 3 d_P_delete_23 fl_P_27 h_r0 rfl ?_
      refine ev_iload_n (pc := 26) d_P_delete_26 rfl ?_
      exact ev_invokevirtual (pc := 27) (As := [.int i1]) (st := []) (Q2 := Q27) M_Pe_putDeletion rC2 d_P_delete_27 lc_P_104 wd_561 wd_562 rfl h_r0p5 rfl rfl (Nat.le_of_ble_eq_true rfl) (Nat.le_of_ble_eq_true rfl) (Nat.le_of_ble_eq_true rfl) hb_rc27 hs_rs27 (c27_1 c7 c17) (k30_2 c7 c17)
    · refine ev_iconst (pc := 20) (-1) d_P_delete_20 (by decide) ?_
      exact ev_ireturn (pc := 21) d_P_delete_21 rfl rfl (q21_3 c7 c17)
  · refine ev_bipush (pc := 10) (-9) d_P_delete_10 (by decide) ?_
    exact ev_ireturn (pc := 12) d_P_delete_12 rfl rfl (q12_4 c7)

set_option maxRecDepth 100000 in
set_option maxHeartbeats 4000000 in
theorem s_P_delete_30 {l : Launch} {X : ev_X} {bc bs n : Nat} {F : ev_H} {Q : Option Value → Nat → ev_H → Prop} {r0 : Nat} {i1 : Int32} {ir0_draftWords : Int32} {ir0p5_ids : Int32} {v34 : Int32} (h_r0 : F r0 = some (psO r0 ir0_draftWords)) (h_r0p5 : F (r0 + 5) = some (.inr (2, [.ref ((r0 + 5) + 1), .int ir0p5_ids])))
    (c34_0 : Cal l X M_Pe_idCount 0 0 [.ref (r0 + 5)] n F (ev_pure (.int v34) n F))
    (q37_1 : Q (some (.int v34)) n F) :
    Ev l X M_P_delete bc bs 30 [(0, .ref r0), (1, .int i1)] [] n F (ev_mq X Q) := by
  refine ev_aload_n (pc := 30) d_P_delete_30 rfl ?_
  refine ev_getfield (pc := 31) 3 d_P_delete_31 fl_P_27 h_r0 rfl ?_
  refine ev_invokevirtual (pc := 34) (As := []) (st := []) (Q2 := ev_pure (.int v34) n F) (bc1 := 0) (bs1 := 0) M_Pe_idCount rC2 d_P_delete_34 lc_P_100 wd_547 wd_548 rfl h_r0p5 rfl rfl (Nat.le_of_ble_eq_true rfl) (Nat.le_of_ble_eq_true rfl) (Nat.le_of_ble_eq_true rfl) (Nat.le_refl _) (Nat.le_refl _) c34_0 ?_
  refine ev_purek ?_
  exact ev_ireturn (pc := 37) d_P_delete_37 rfl rfl q37_1
set_option maxRecDepth 100000 in
set_option maxHeartbeats 4000000 in
theorem s_P_commit_0 {l : Launch} {X : ev_X} {bc bs n : Nat} {F : ev_H} {Q : Option Value → Nat → ev_H → Prop} {r0 : Nat} {ir0_draftWords : Int32} {ir0p10_blocksWritten : Int32} {ir0p10_blocksToStop : Int32} {ir0p10_stopped : Int32} {ir0p5_ids : Int32} {v17 : Int32} {r0p5p1_elementData : Nat} {ir0p5p1_size : Int32} {ir0p5p1_modCount : Int32} {v32 : Int32} {r0p7p1_elementData : Nat} {ir0p7p1_size : Int32} {ir0p7p1_modCount : Int32} {v45 : Int32} (h_r0 : F r0 = some (psO r0 ir0_draftWords)) (h_r0p10 : F (r0 + 10) = some (.inr (4, [.int ir0p10_blocksWritten, .int ir0p10_blocksToStop, .int ir0p10_stopped]))) (h_r0p5 : F (r0 + 5) = some (.inr (2, [.ref ((r0 + 5) + 1), .int ir0p5_ids]))) (h_r0p5p1 : F ((r0 + 5) + 1) = some (.inr (12, [.ref r0p5p1_elementData, .int ir0p5p1_size, .int ir0p5p1_modCount]))) (h_r0p7 : F (r0 + 7) = some (.inr (3, [.ref ((r0 + 7) + 1), .ref ((r0 + 7) + 2)]))) (h_r0p7p1 : F ((r0 + 7) + 1) = some (.inr (12, [.ref r0p7p1_elementData, .int ir0p7p1_size, .int ir0p7p1_modCount])))
    (c17_0 : (ir0p10_stopped = 0) → Cal l X M_Pe_idCount 0 0 [.ref (r0 + 5)] n F (ev_pure (.int v17) n F))
    (c32_1 : (ir0p10_stopped = 0) → (¬ v17 = 0) → Cal l X M_AL_isEmpty 0 0 [.ref ((r0 + 5) + 1)] n F (ev_pure (.int v32) n F))
    (k56_2 : (ir0p10_stopped = 0) → (¬ v17 = 0) → (¬ v32 = 0) → Ev l X M_P_commit bc bs 56 [(0, .ref r0)] [] n F (ev_mq X Q))
    (c45_3 : (ir0p10_stopped = 0) → (¬ v17 = 0) → (v32 = 0) → Cal l X M_AL_size 0 0 [.ref ((r0 + 7) + 1)] n F (ev_pure (.int v45) n F))
    (k56_4 : (ir0p10_stopped = 0) → (¬ v17 = 0) → (v32 = 0) → (v45 < 6) → Ev l X M_P_commit bc bs 56 [(0, .ref r0)] [] n F (ev_mq X Q))
    (q55_5 : (ir0p10_stopped = 0) → (¬ v17 = 0) → (v32 = 0) → (¬ v45 < 6) → Q (some (.int (-2))) n F)
    (q24_6 : (ir0p10_stopped = 0) → (v17 = 0) → Q (some (.int (-1))) n F)
    (q12_7 : (¬ ir0p10_stopped = 0) → Q (some (.int (-9))) n F) :
    Ev l X M_P_commit bc bs 0 [(0, .ref r0)] [] n F (ev_mq X Q) := by
  refine ev_aload_n (pc := 0) d_P_commit_0 rfl ?_
  refine ev_getfield (pc := 1) 5 d_P_commit_1 fl_P_41 h_r0 rfl ?_
  refine ev_getfield (pc := 4) 2 d_P_commit_4 fl_P_74 h_r0p10 rfl ?_
  refine ev_if_eq (pc := 7) 13 d_P_commit_7 (by decide) (fun c7 => ?_) (fun c7 => ?_)
  · refine ev_aload_n (pc := 13) d_P_commit_13 rfl ?_
    refine ev_getfield (pc := 14) 3 d_P_commit_14 fl_P_27 h_r0 rfl ?_
    refine ev_invokevirtual (pc := 17) (As := []) (st := []) (Q2 := ev_pure (.int v17) n F) (bc1 := 0) (bs1 := 0) M_Pe_idCount rC2 d_P_commit_17 lc_P_100 wd_547 wd_548 rfl h_r0p5 rfl rfl (Nat.le_of_ble_eq_true rfl) (Nat.le_of_ble_eq_true rfl) (Nat.le_of_ble_eq_true rfl) (Nat.le_refl _) (Nat.le_refl _) (c17_0 c7) ?_
    refine ev_purek ?_
    refine ev_if_ne (pc := 20) 25 d_P_commit_20 (by decide) (fun c20 => ?_) (fun c20 => ?_)
    · refine ev_aload_n (pc := 25) d_P_commit_25 rfl ?_
      refine ev_getfield (pc := 26) 3 d_P_commit_26 fl_P_27 h_r0 rfl ?_
      refine ev_getfield (pc := 29) 0 d_P_commit_29 fl_P_108 h_r0p5 rfl ?_
      refine ev_invokevirtual (pc := 32) (As := []) (st := []) (Q2 := ev_pure (.int v32) n F) (bc1 := 0) (bs1 := 0) M_AL_isEmpty rC12 d_P_commit_32 lc_P_112 wd_569 wd_570 rfl h_r0p5p1 rfl rfl (Nat.le_of_ble_eq_true rfl) (Nat.le_of_ble_eq_true rfl) (Nat.le_of_ble_eq_true rfl) (Nat.le_refl _) (Nat.le_refl _) (c32_1 c7 c20) ?_
      refine ev_purek ?_
      refine ev_if_ne (pc := 35) 56 d_P_commit_35 (by decide) (fun c35 => ?_) (fun c35 => ?_)
      · exact (k56_2 c7 c20 c35)
      · refine ev_aload_n (pc := 38) d_P_commit_38 rfl ?_
        refine ev_getfield (pc := 39) 4 d_P_commit_39 fl_P_34 h_r0 rfl ?_
        refine ev_getfield (pc := 42) 0 d_P_commit_42 fl_P_118 h_r0p7 rfl ?_
        refine ev_invokevirtual (pc := 45) (As := []) (st := []) (Q2 := ev_pure (.int v45) n F) (bc1 := 0) (bs1 := 0) M_AL_size rC12 d_P_commit_45 lc_P_121 wd_469 wd_470 rfl h_r0p7p1 rfl rfl (Nat.le_of_ble_eq_true rfl) (Nat.le_of_ble_eq_true rfl) (Nat.le_of_ble_eq_true rfl) (Nat.le_refl _) (Nat.le_refl _) (c45_3 c7 c20 c35) ?_
        refine ev_purek ?_
        refine ev_bipush (pc := 48) 6 d_P_commit_48 (by decide) ?_
        refine ev_icmp_lt (pc := 50) 56 d_P_commit_50 (by decide) (fun c50 => ?_) (fun c50 => ?_)
        · exact (k56_4 c7 c20 c35 c50)
        · refine ev_bipush (pc := 53) (-2) d_P_commit_53 (by decide) ?_
          exact ev_ireturn (pc := 55) d_P_commit_55 rfl rfl (q55_5 c7 c20 c35 c50)
    · refine ev_iconst (pc := 23) (-1) d_P_commit_23 (by decide) ?_
      exact ev_ireturn (pc := 24) d_P_commit_24 rfl rfl (q24_6 c7 c20)
  · refine ev_bipush (pc := 10) (-9) d_P_commit_10 (by decide) ?_
    exact ev_ireturn (pc := 12) d_P_commit_12 rfl rfl (q12_7 c7)

set_option maxRecDepth 100000 in
set_option maxHeartbeats 4000000 in
theorem s_P_commit_56 {l : Launch} {X : ev_X} {bc bs n : Nat} {F : ev_H} {Q : Option Value → Nat → ev_H → Prop} {r0 : Nat} {ir0_draftWords : Int32} {ir0p5_ids : Int32} {v67 : Int32} (h_r0 : F r0 = some (psO r0 ir0_draftWords)) (h_r0p5 : F (r0 + 5) = some (.inr (2, [.ref ((r0 + 5) + 1), .int ir0p5_ids]))) (h_r0p7 : F (r0 + 7) = some (.inr (3, [.ref ((r0 + 7) + 1), .ref ((r0 + 7) + 2)])))
    (c67_0 : Cal l X M_Sh_hasLiveAmong 0 0 [.ref (r0 + 7), .int ir0p5_ids] n F (ev_pure (.int v67) n F))
    (k78_1 : (v67 = 0) → Ev l X M_P_commit bc bs 78 [(0, .ref r0)] [.int 0] n F (ev_mq X Q))
    (k78_2 : (¬ v67 = 0) → Ev l X M_P_commit bc bs 78 [(0, .ref r0)] [.int 1] n F (ev_mq X Q)) :
    Ev l X M_P_commit bc bs 56 [(0, .ref r0)] [] n F (ev_mq X Q) := by
  refine ev_aload_n (pc := 56) d_P_commit_56 rfl ?_
  refine ev_getfield (pc := 57) 4 d_P_commit_57 fl_P_34 h_r0 rfl ?_
  refine ev_aload_n (pc := 60) d_P_commit_60 rfl ?_
  refine ev_getfield (pc := 61) 3 d_P_commit_61 fl_P_27 h_r0 rfl ?_
  refine ev_getfield (pc := 64) 1 d_P_commit_64 fl_P_124 h_r0p5 rfl ?_
  refine ev_invokevirtual (pc := 67) (As := [.int ir0p5_ids]) (st := []) (Q2 := ev_pure (.int v67) n F) (bc1 := 0) (bs1 := 0) M_Sh_hasLiveAmong rC3 d_P_commit_67 lc_P_127 wd_574 wd_575 rfl h_r0p7 rfl rfl (Nat.le_of_ble_eq_true rfl) (Nat.le_of_ble_eq_true rfl) (Nat.le_of_ble_eq_true rfl) (Nat.le_refl _) (Nat.le_refl _) c67_0 ?_
  refine ev_purek ?_
  refine ev_if_eq (pc := 70) 77 d_P_commit_70 (by decide) (fun c70 => ?_) (fun c70 => ?_)
  · refine ev_iconst (pc := 77) 0 d_P_commit_77 (by decide) ?_
    exact (k78_1 c70)
  · refine ev_iconst (pc := 73) 1 d_P_commit_73 (by decide) ?_
    refine ev_goto (pc := 74) 78 d_P_commit_74 (by decide) ?_
    exact (k78_2 c70)

set_option maxRecDepth 100000 in
set_option maxHeartbeats 4000000 in
theorem s_P_commit_78 {l : Launch} {X : ev_X} {bc bs n : Nat} {F : ev_H} {Q : Option Value → Nat → ev_H → Prop} {r0 : Nat} {is0 : Int32} {ir0_draftWords : Int32} {ir0p5_ids : Int32} {r0p5p1_elementData : Nat} {ir0p5p1_size : Int32} {ir0p5p1_modCount : Int32} {v90 : Int32} {ir0p10_blocksWritten : Int32} {ir0p10_blocksToStop : Int32} {ir0p10_stopped : Int32} {Q97 : Option Value → Nat → ev_H → Prop} {bc97 : Nat} {bs97 : Nat} {rc97 : Nat} {rs97 : Nat} (h_r0 : F r0 = some (psO r0 ir0_draftWords)) (h_r0p5 : F (r0 + 5) = some (.inr (2, [.ref ((r0 + 5) + 1), .int ir0p5_ids]))) (h_r0p5p1 : F ((r0 + 5) + 1) = some (.inr (12, [.ref r0p5p1_elementData, .int ir0p5p1_size, .int ir0p5p1_modCount]))) (h_r0p10 : F (r0 + 10) = some (.inr (4, [.int ir0p10_blocksWritten, .int ir0p10_blocksToStop, .int ir0p10_stopped]))) (hb_rc97 : rc97 + bc97 ≤ bc) (hs_rs97 : rs97 + bs97 ≤ bs)
    (c90_0 : Cal l X M_AL_size 0 0 [.ref ((r0 + 5) + 1)] n F (ev_pure (.int v90) n F))
    (c97_1 : Cal l X M_Ma_writeBlocks bc97 bs97 [.ref (r0 + 10), .int ((v90 + is0) + 1)] n F Q97)
    (k100_2 : ∀ v2 n2 F2, Q97 v2 n2 F2 → Ev l X M_P_commit rc97 rs97 100 [(0, .ref r0), (1, .int is0)] (v2.toList ++ []) n2 F2 (ev_mq X Q)) :
    Ev l X M_P_commit bc bs 78 [(0, .ref r0)] [.int is0] n F (ev_mq X Q) := by
  refine ev_istore_n (pc := 78) d_P_commit_78 (Nat.le_of_ble_eq_true rfl) [1, 0] rfl ?_
  refine ev_aload_n (pc := 79) d_P_commit_79 rfl ?_
  refine ev_getfield (pc := 80) 5 d_P_commit_80 fl_P_41 h_r0 rfl ?_
  refine ev_aload_n (pc := 83) d_P_commit_83 rfl ?_
  refine ev_getfield (pc := 84) 3 d_P_commit_84 fl_P_27 h_r0 rfl ?_
  refine ev_getfield (pc := 87) 0 d_P_commit_87 fl_P_108 h_r0p5 rfl ?_
  refine ev_invokevirtual (pc := 90) (As := []) (st := [.ref (r0 + 10)]) (Q2 := ev_pure (.int v90) n F) (bc1 := 0) (bs1 := 0) M_AL_size rC12 d_P_commit_90 lc_P_121 wd_469 wd_470 rfl h_r0p5p1 rfl rfl (Nat.le_of_ble_eq_true rfl) (Nat.le_of_ble_eq_true rfl) (Nat.le_of_ble_eq_true rfl) (Nat.le_refl _) (Nat.le_refl _) c90_0 ?_
  refine ev_purek ?_
  refine ev_iload_n (pc := 93) d_P_commit_93 rfl ?_
  refine ev_iadd (pc := 94) d_P_commit_94 ?_
  refine ev_iconst (pc := 95) 1 d_P_commit_95 (by decide) ?_
  refine ev_iadd (pc := 96) d_P_commit_96 ?_
  exact ev_invokevirtual (pc := 97) (As := [.int ((v90 + is0) + 1)]) (st := []) (Q2 := Q97) M_Ma_writeBlocks rC4 d_P_commit_97 lc_P_130 wd_584 wd_585 rfl h_r0p10 rfl rfl (Nat.le_of_ble_eq_true rfl) (Nat.le_of_ble_eq_true rfl) (Nat.le_of_ble_eq_true rfl) hb_rc97 hs_rs97 c97_1 k100_2

set_option maxRecDepth 100000 in
set_option maxHeartbeats 4000000 in
theorem s_P_commit_121 {l : Launch} {X : ev_X} {bc bs n : Nat} {F : ev_H} {Q : Option Value → Nat → ev_H → Prop} {r0 : Nat} {i1 : Int32} {ir0_draftWords : Int32} {ir0p10_blocksWritten : Int32} {ir0p10_blocksToStop : Int32} {ir0p10_stopped : Int32} {r0p7p2_elementData : Nat} {ir0p7p2_size : Int32} {ir0p7p2_modCount : Int32} {v145 : Int32} {Q132 : Option Value → Nat → ev_H → Prop} {bc132 : Nat} {bs132 : Nat} {rc132 : Nat} {rs132 : Nat} (h_r0 : F r0 = some (psO r0 ir0_draftWords)) (h_r0p10 : F (r0 + 10) = some (.inr (4, [.int ir0p10_blocksWritten, .int ir0p10_blocksToStop, .int ir0p10_stopped]))) (h_r0p7 : F (r0 + 7) = some (.inr (3, [.ref ((r0 + 7) + 1), .ref ((r0 + 7) + 2)]))) (h_r0p7p2 : F ((r0 + 7) + 2) = some (.inr (12, [.ref r0p7p2_elementData, .int ir0p7p2_size, .int ir0p7p2_modCount]))) (hb_rc132 : rc132 + bc132 ≤ bc) (hs_rs132 : rs132 + bs132 ≤ bs)
    (c145_0 : (ir0p10_stopped = 0) → Cal l X M_AL_size 0 0 [.ref ((r0 + 7) + 2)] n F (ev_pure (.int v145) n F))
    (k148_1 : (ir0p10_stopped = 0) → Ev l X M_P_commit bc bs 148 [(0, .ref r0), (1, .int i1)] [.int v145] n F (ev_mq X Q))
    (c132_2 : (¬ ir0p10_stopped = 0) → Cal l X M_P_goDown bc132 bs132 [.ref r0] n F Q132)
    (k135_3 : (¬ ir0p10_stopped = 0) → ∀ v2 n2 F2, Q132 v2 n2 F2 → Ev l X M_P_commit rc132 rs132 135 [(0, .ref r0), (1, .int i1)] (v2.toList ++ []) n2 F2 (ev_mq X Q)) :
    Ev l X M_P_commit bc bs 121 [(0, .ref r0), (1, .int i1)] [] n F (ev_mq X Q) := by
  refine ev_aload_n (pc := 121) d_P_commit_121 rfl ?_
  refine ev_getfield (pc := 122) 5 d_P_commit_122 fl_P_41 h_r0 rfl ?_
  refine ev_getfield (pc := 125) 2 d_P_commit_125 fl_P_74 h_r0p10 rfl ?_
  refine ev_if_eq (pc := 128) 138 d_P_commit_128 (by decide) (fun c128 => ?_) (fun c128 => ?_)
  · refine ev_aload_n (pc := 138) d_P_commit_138 rfl ?_
    refine ev_getfield (pc := 139) 4 d_P_commit_139 fl_P_34 h_r0 rfl ?_
    refine ev_getfield (pc := 142) 1 d_P_commit_142 fl_P_143 h_r0p7 rfl ?_
    refine ev_invokevirtual (pc := 145) (As := []) (st := []) (Q2 := ev_pure (.int v145) n F) (bc1 := 0) (bs1 := 0) M_AL_size rC12 d_P_commit_145 lc_P_121 wd_469 wd_470 rfl h_r0p7p2 rfl rfl (Nat.le_of_ble_eq_true rfl) (Nat.le_of_ble_eq_true rfl) (Nat.le_of_ble_eq_true rfl) (Nat.le_refl _) (Nat.le_refl _) (c145_0 c128) ?_
    refine ev_purek ?_
    exact (k148_1 c128)
  · refine ev_aload_n (pc := 131) d_P_commit_131 rfl ?_
    exact ev_invokevirtual (pc := 132) (As := []) (st := []) (Q2 := Q132) M_P_goDown rC0 d_P_commit_132 lc_P_140 wd_646 wd_s22 rfl h_r0 rfl rfl (Nat.le_of_ble_eq_true rfl) (Nat.le_of_ble_eq_true rfl) (Nat.le_of_ble_eq_true rfl) hb_rc132 hs_rs132 (c132_2 c128) (k135_3 c128)

set_option maxRecDepth 100000 in
set_option maxHeartbeats 4000000 in
theorem s_P_commit_148 {l : Launch} {X : ev_X} {bc bs n : Nat} {F : ev_H} {Q : Option Value → Nat → ev_H → Prop} {r0 : Nat} {i1 : Int32} {is0 : Int32} 
    (q148_0 : Q (some (.int is0)) n F) :
    Ev l X M_P_commit bc bs 148 [(0, .ref r0), (1, .int i1)] [.int is0] n F (ev_mq X Q) := by
  exact ev_ireturn (pc := 148) d_P_commit_148 rfl rfl q148_0

set_option maxRecDepth 100000 in
set_option maxHeartbeats 4000000 in
theorem s_P_commit_100 {l : Launch} {X : ev_X} {bc bs n : Nat} {F : ev_H} {Q : Option Value → Nat → ev_H → Prop} {r0 : Nat} {i1 : Int32} {is0 : Int32} {ir0_draftWords : Int32} {Q111 : Option Value → Nat → ev_H → Prop} {bc111 : Nat} {bs111 : Nat} {rc111 : Nat} {rs111 : Nat} (h_r0 : F r0 = some (psO r0 ir0_draftWords)) (h_r0p7 : F (r0 + 7) = some (.inr (3, [.ref ((r0 + 7) + 1), .ref ((r0 + 7) + 2)]))) (hb_rc111 : rc111 + bc111 ≤ bc) (hs_rs111 : rs111 + bs111 ≤ bs)
    (k121_0 : (is0 = 0) → Ev l X M_P_commit bc bs 121 [(0, .ref r0), (1, .int i1)] [] n F (ev_mq X Q))
    (c111_1 : (¬ is0 = 0) → Cal l X M_Sh_takeIn bc111 bs111 [.ref (r0 + 7), .ref (r0 + 5)] n F Q111)
    (k114_2 : (¬ is0 = 0) → ∀ v2 n2 F2, Q111 v2 n2 F2 → Ev l X M_P_commit rc111 rs111 114 [(0, .ref r0), (1, .int i1)] (v2.toList ++ []) n2 F2 (ev_mq X Q)) :
    Ev l X M_P_commit bc bs 100 [(0, .ref r0), (1, .int i1)] [.int is0] n F (ev_mq X Q) := by
  refine ev_if_eq (pc := 100) 121 d_P_commit_100 (by decide) (fun c100 => ?_) (fun c100 => ?_)
  · exact (k121_0 c100)
  · refine ev_aload_n (pc := 103) d_P_commit_103 rfl ?_
    refine ev_getfield (pc := 104) 4 d_P_commit_104 fl_P_34 h_r0 rfl ?_
    refine ev_aload_n (pc := 107) d_P_commit_107 rfl ?_
    refine ev_getfield (pc := 108) 3 d_P_commit_108 fl_P_27 h_r0 rfl ?_
    exact ev_invokevirtual (pc := 111) (As := [.ref (r0 + 5)]) (st := []) (Q2 := Q111) M_Sh_takeIn rC3 d_P_commit_111 lc_P_133 wd_592 wd_593 rfl h_r0p7 rfl rfl (Nat.le_of_ble_eq_true rfl) (Nat.le_of_ble_eq_true rfl) (Nat.le_of_ble_eq_true rfl) hb_rc111 hs_rs111 (c111_1 c100) (k114_2 c100)

set_option maxRecDepth 100000 in
set_option maxHeartbeats 4000000 in
theorem s_P_commit_135 {l : Launch} {X : ev_X} {bc bs n : Nat} {F : ev_H} {Q : Option Value → Nat → ev_H → Prop} {r0 : Nat} {i1 : Int32} {is0 : Int32} 
    (k148_0 : Ev l X M_P_commit bc bs 148 [(0, .ref r0), (1, .int i1)] [.int is0] n F (ev_mq X Q)) :
    Ev l X M_P_commit bc bs 135 [(0, .ref r0), (1, .int i1)] [.int is0] n F (ev_mq X Q) := by
  refine ev_goto (pc := 135) 148 d_P_commit_135 (by decide) ?_
  exact k148_0

set_option maxRecDepth 100000 in
set_option maxHeartbeats 4000000 in
theorem s_P_commit_114 {l : Launch} {X : ev_X} {bc bs n : Nat} {F : ev_H} {Q : Option Value → Nat → ev_H → Prop} {r0 : Nat} {i1 : Int32} {ir0_draftWords : Int32} {ir0p5_ids : Int32} {Q118 : Option Value → Nat → ev_H → Prop} {bc118 : Nat} {bs118 : Nat} {rc118 : Nat} {rs118 : Nat} (h_r0 : F r0 = some (psO r0 ir0_draftWords)) (h_r0p5 : F (r0 + 5) = some (.inr (2, [.ref ((r0 + 5) + 1), .int ir0p5_ids]))) (hb_rc118 : rc118 + bc118 ≤ bc) (hs_rs118 : rs118 + bs118 ≤ bs)
    (c118_0 : Cal l X M_Pe_clear bc118 bs118 [.ref (r0 + 5)] n F Q118)
    (k121_1 : ∀ v2 n2 F2, Q118 v2 n2 F2 → Ev l X M_P_commit rc118 rs118 121 [(0, .ref r0), (1, .int i1)] (v2.toList ++ []) n2 F2 (ev_mq X Q)) :
    Ev l X M_P_commit bc bs 114 [(0, .ref r0), (1, .int i1)] [] n F (ev_mq X Q) := by
  refine ev_aload_n (pc := 114) d_P_commit_114 rfl ?_
  refine ev_getfield (pc := 115) 3 d_P_commit_115 fl_P_27 h_r0 rfl ?_
  exact ev_invokevirtual (pc := 118) (As := []) (st := []) (Q2 := Q118) M_Pe_clear rC2 d_P_commit_118 lc_P_137 wd_637 wd_638 rfl h_r0p5 rfl rfl (Nat.le_of_ble_eq_true rfl) (Nat.le_of_ble_eq_true rfl) (Nat.le_of_ble_eq_true rfl) hb_rc118 hs_rs118 c118_0 k121_1
set_option maxRecDepth 100000 in
set_option maxHeartbeats 4000000 in
theorem s_P_isAmong_0 {l : Launch} {X : ev_X} {bc bs n : Nat} {F : ev_H} {Q : Option Value → Nat → ev_H → Prop} {i0 : Int32} {i1 : Int32} 
    (q14_0 : (¬ ((i1 >>> (i0 &&& 31)) &&& 1) = 1) → Q (some (.int 0)) n F)
    (q14_1 : (((i1 >>> (i0 &&& 31)) &&& 1) = 1) → Q (some (.int 1)) n F) :
    Ev l X M_P_isAmong bc bs 0 [(0, .int i0), (1, .int i1)] [] n F (ev_mq X Q) := by
  refine ev_iload_n (pc := 0) d_P_isAmong_0 rfl ?_
  refine ev_iload_n (pc := 1) d_P_isAmong_1 rfl ?_
  refine ev_ishr (pc := 2) d_P_isAmong_2 ?_
  refine ev_iconst (pc := 3) 1 d_P_isAmong_3 (by decide) ?_
  refine ev_iand (pc := 4) d_P_isAmong_4 ?_
  refine ev_iconst (pc := 5) 1 d_P_isAmong_5 (by decide) ?_
  refine ev_icmp_ne (pc := 6) 13 d_P_isAmong_6 (by decide) (fun c6 => ?_) (fun c6 => ?_)
  · refine ev_iconst (pc := 13) 0 d_P_isAmong_13 (by decide) ?_
    exact ev_ireturn (pc := 14) d_P_isAmong_14 rfl rfl (q14_0 c6)
  · refine ev_iconst (pc := 9) 1 d_P_isAmong_9 (by decide) ?_
    refine ev_goto (pc := 10) 14 d_P_isAmong_10 (by decide) ?_
    exact ev_ireturn (pc := 14) d_P_isAmong_14 rfl rfl (q14_1 c6)
set_option maxRecDepth 100000 in
set_option maxHeartbeats 4000000 in
theorem s_P_goDown_0 {l : Launch} {X : ev_X} {bc bs n : Nat} {F : ev_H} {Q : Option Value → Nat → ev_H → Prop} {r0 : Nat} {ir0_draftWords : Int32} {ir0p5_ids : Int32} {Q9 : Option Value → Nat → ev_H → Prop} {bc9 : Nat} {bs9 : Nat} {rc9 : Nat} {rs9 : Nat} (h_r0 : F r0 = some (psO r0 ir0_draftWords)) (h_r0p5 : F (r0 + 5) = some (.inr (2, [.ref ((r0 + 5) + 1), .int ir0p5_ids]))) (hb_rc9 : rc9 + bc9 ≤ bc) (hs_rs9 : rs9 + bs9 ≤ bs)
    (c9_0 : Cal l X M_Pe_clear bc9 bs9 [.ref (r0 + 5)] n (ev_up F r0 (psO r0 0)) Q9)
    (k12_1 : ∀ v2 n2 F2, Q9 v2 n2 F2 → Ev l X M_P_goDown rc9 rs9 12 [(0, .ref r0)] (v2.toList ++ []) n2 F2 (ev_mq X Q)) :
    Ev l X M_P_goDown bc bs 0 [(0, .ref r0)] [] n F (ev_mq X Q) := by
  refine ev_aload_n (pc := 0) d_P_goDown_0 rfl ?_
  refine ev_iconst (pc := 1) 0 d_P_goDown_1 (by decide) ?_
  refine ev_putfield (pc := 2) 2 _ d_P_goDown_2 fl_P_20 h_r0 pf_0_draftWords rfl rfl (Nat.le_of_ble_eq_true rfl) (fun F1_ hF1_ => ?_)
  have g2_ : F1_ r0 = some (psO r0 0) := by rw [← hF1_]; exact ev_up_s
  refine ev_aload_n (pc := 5) d_P_goDown_5 rfl ?_
  refine ev_getfield (pc := 6) 3 d_P_goDown_6 fl_P_27 g2_ rfl ?_
  have g3_ : F1_ (r0 + 5) = some (.inr (2, [.ref ((r0 + 5) + 1), .int ir0p5_ids])) := by rw [← hF1_]; exact ev_up_k (ev_ne_oo h_r0p5 h_r0 rfl) h_r0p5
  exact ev_invokevirtual (pc := 9) (As := []) (st := []) (Q2 := Q9) M_Pe_clear rC2 d_P_goDown_9 lc_P_137 wd_637 wd_638 rfl g3_ rfl rfl (Nat.le_of_ble_eq_true rfl) (Nat.le_of_ble_eq_true rfl) (Nat.le_of_ble_eq_true rfl) hb_rc9 hs_rs9 (by subst hF1_; exact c9_0) k12_1

set_option maxRecDepth 100000 in
set_option maxHeartbeats 4000000 in
theorem s_P_goDown_12 {l : Launch} {X : ev_X} {bc bs n : Nat} {F : ev_H} {Q : Option Value → Nat → ev_H → Prop} {r0 : Nat} {ir0_draftWords : Int32} {ir0p11_height : Int32} {Q16 : Option Value → Nat → ev_H → Prop} {bc16 : Nat} {bs16 : Nat} {rc16 : Nat} {rs16 : Nat} (h_r0 : F r0 = some (psO r0 ir0_draftWords)) (h_r0p11 : F (r0 + 11) = some (.inr (5, [.ref ((r0 + 11) + 1), .ref ((r0 + 11) + 2), .int ir0p11_height]))) (hb_rc16 : rc16 + bc16 ≤ bc) (hs_rs16 : rs16 + bs16 ≤ bs)
    (c16_0 : Cal l X M_Qs_clear bc16 bs16 [.ref (r0 + 11)] n F Q16)
    (k19_1 : ∀ v2 n2 F2, Q16 v2 n2 F2 → Ev l X M_P_goDown rc16 rs16 19 [(0, .ref r0)] (v2.toList ++ []) n2 F2 (ev_mq X Q)) :
    Ev l X M_P_goDown bc bs 12 [(0, .ref r0)] [] n F (ev_mq X Q) := by
  refine ev_aload_n (pc := 12) d_P_goDown_12 rfl ?_
  refine ev_getfield (pc := 13) 6 d_P_goDown_13 fl_P_48 h_r0 rfl ?_
  exact ev_invokevirtual (pc := 16) (As := []) (st := []) (Q2 := Q16) M_Qs_clear rC5 d_P_goDown_16 lc_P_185 wd_649 wd_650 rfl h_r0p11 rfl rfl (Nat.le_of_ble_eq_true rfl) (Nat.le_of_ble_eq_true rfl) (Nat.le_of_ble_eq_true rfl) hb_rc16 hs_rs16 c16_0 k19_1

set_option maxRecDepth 100000 in
set_option maxHeartbeats 4000000 in
theorem s_P_goDown_19 {l : Launch} {X : ev_X} {bc bs n : Nat} {F : ev_H} {Q : Option Value → Nat → ev_H → Prop} {r0 : Nat} 
    (q21_0 : Q (some (.int (-9))) n F) :
    Ev l X M_P_goDown bc bs 19 [(0, .ref r0)] [] n F (ev_mq X Q) := by
  refine ev_bipush (pc := 19) (-9) d_P_goDown_19 (by decide) ?_
  exact ev_ireturn (pc := 21) d_P_goDown_21 rfl rfl q21_0
set_option maxRecDepth 100000 in
set_option maxHeartbeats 4000000 in
theorem s_P_merge_0 {l : Launch} {X : ev_X} {bc bs n : Nat} {F : ev_H} {Q : Option Value → Nat → ev_H → Prop} {r0 : Nat} {i1 : Int32} {ir0_draftWords : Int32} {ir0p10_blocksWritten : Int32} {ir0p10_blocksToStop : Int32} {ir0p10_stopped : Int32} {r0p7p1_elementData : Nat} {ir0p7p1_size : Int32} {ir0p7p1_modCount : Int32} {v25 : Int32} {Q40 : Option Value → Nat → ev_H → Prop} {bc40 : Nat} {bs40 : Nat} {rc40 : Nat} {rs40 : Nat} (h_r0 : F r0 = some (psO r0 ir0_draftWords)) (h_r0p10 : F (r0 + 10) = some (.inr (4, [.int ir0p10_blocksWritten, .int ir0p10_blocksToStop, .int ir0p10_stopped]))) (h_r0p7 : F (r0 + 7) = some (.inr (3, [.ref ((r0 + 7) + 1), .ref ((r0 + 7) + 2)]))) (h_r0p7p1 : F ((r0 + 7) + 1) = some (.inr (12, [.ref r0p7p1_elementData, .int ir0p7p1_size, .int ir0p7p1_modCount]))) (hb_rc40 : rc40 + bc40 ≤ bc) (hs_rs40 : rs40 + bs40 ≤ bs)
    (q34_0 : (ir0p10_stopped = 0) → (i1 < 0) → Q (some (.int (-1))) n F)
    (c25_1 : (ir0p10_stopped = 0) → (¬ i1 < 0) → Cal l X M_AL_size 0 0 [.ref ((r0 + 7) + 1)] n F (ev_pure (.int v25) n F))
    (c40_2 : (ir0p10_stopped = 0) → (¬ i1 < 0) → (i1 < (v25 - 1)) → Cal l X M_Sh_joinedFrom bc40 bs40 [.ref (r0 + 7), .int i1] n F Q40)
    (k43_3 : (ir0p10_stopped = 0) → (¬ i1 < 0) → (i1 < (v25 - 1)) → ∀ v2 n2 F2, Q40 v2 n2 F2 → Ev l X M_P_merge rc40 rs40 43 [(0, .ref r0), (1, .int i1)] (v2.toList ++ []) n2 F2 (ev_mq X Q))
    (q34_4 : (ir0p10_stopped = 0) → (¬ i1 < 0) → (¬ i1 < (v25 - 1)) → Q (some (.int (-1))) n F)
    (q12_5 : (¬ ir0p10_stopped = 0) → Q (some (.int (-9))) n F) :
    Ev l X M_P_merge bc bs 0 [(0, .ref r0), (1, .int i1)] [] n F (ev_mq X Q) := by
  refine ev_aload_n (pc := 0) d_P_merge_0 rfl ?_
  refine ev_getfield (pc := 1) 5 d_P_merge_1 fl_P_41 h_r0 rfl ?_
  refine ev_getfield (pc := 4) 2 d_P_merge_4 fl_P_74 h_r0p10 rfl ?_
  refine ev_if_eq (pc := 7) 13 d_P_merge_7 (by decide) (fun c7 => ?_) (fun c7 => ?_)
  · refine ev_iload_n (pc := 13) d_P_merge_13 rfl ?_
    refine ev_if_lt (pc := 14) 33 d_P_merge_14 (by decide) (fun c14 => ?_) (fun c14 => ?_)
    · refine ev_iconst (pc := 33) (-1) d_P_merge_33 (by decide) ?_
      exact ev_ireturn (pc := 34) d_P_merge_34 rfl rfl (q34_0 c7 c14)
    · refine ev_iload_n (pc := 17) d_P_merge_17 rfl ?_
      refine ev_aload_n (pc := 18) d_P_merge_18 rfl ?_
      refine ev_getfield (pc := 19) 4 d_P_merge_19 fl_P_34 h_r0 rfl ?_
      refine ev_getfield (pc := 22) 0 d_P_merge_22 fl_P_118 h_r0p7 rfl ?_
      refine ev_invokevirtual (pc := 25) (As := []) (st := [.int i1]) (Q2 := ev_pure (.int v25) n F) (bc1 := 0) (bs1 := 0) M_AL_size rC12 d_P_merge_25 lc_P_121 wd_469 wd_470 rfl h_r0p7p1 rfl rfl (Nat.le_of_ble_eq_true rfl) (Nat.le_of_ble_eq_true rfl) (Nat.le_of_ble_eq_true rfl) (Nat.le_refl _) (Nat.le_refl _) (c25_1 c7 c14) ?_
      refine ev_purek ?_
      refine ev_iconst (pc := 28) 1 d_P_merge_28 (by decide) ?_
      refine ev_isub (pc := 29) d_P_merge_29 ?_
      refine ev_icmp_lt (pc := 30) 35 d_P_merge_30 (by decide) (fun c30 => ?_) (fun c30 => ?_)
      · refine ev_aload_n (pc := 35) d_P_merge_35 rfl ?_
        refine ev_getfield (pc := 36) 4 d_P_merge_36 fl_P_34 h_r0 rfl ?_
        refine ev_iload_n (pc := 39) d_P_merge_39 rfl ?_
        exact ev_invokevirtual (pc := 40) (As := [.int i1]) (st := []) (Q2 := Q40) M_Sh_joinedFrom rC3 d_P_merge_40 lc_P_146 wd_658 wd_659 rfl h_r0p7 rfl rfl (Nat.le_of_ble_eq_true rfl) (Nat.le_of_ble_eq_true rfl) (Nat.le_of_ble_eq_true rfl) hb_rc40 hs_rs40 (c40_2 c7 c14 c30) (k43_3 c7 c14 c30)
      · refine ev_iconst (pc := 33) (-1) d_P_merge_33 (by decide) ?_
        exact ev_ireturn (pc := 34) d_P_merge_34 rfl rfl (q34_4 c7 c14 c30)
  · refine ev_bipush (pc := 10) (-9) d_P_merge_10 (by decide) ?_
    exact ev_ireturn (pc := 12) d_P_merge_12 rfl rfl (q12_5 c7)

set_option maxRecDepth 100000 in
set_option maxHeartbeats 4000000 in
theorem s_P_merge_72 {l : Launch} {X : ev_X} {bc bs n : Nat} {F : ev_H} {Q : Option Value → Nat → ev_H → Prop} {r0 : Nat} {i1 : Int32} {r2 : Nat} {ir0_draftWords : Int32} {ir0p10_blocksWritten : Int32} {ir0p10_blocksToStop : Int32} {ir0p10_stopped : Int32} {r0p7p1_elementData : Nat} {ir0p7p1_size : Int32} {ir0p7p1_modCount : Int32} {v96 : Int32} {Q83 : Option Value → Nat → ev_H → Prop} {bc83 : Nat} {bs83 : Nat} {rc83 : Nat} {rs83 : Nat} (h_r0 : F r0 = some (psO r0 ir0_draftWords)) (h_r0p10 : F (r0 + 10) = some (.inr (4, [.int ir0p10_blocksWritten, .int ir0p10_blocksToStop, .int ir0p10_stopped]))) (h_r0p7 : F (r0 + 7) = some (.inr (3, [.ref ((r0 + 7) + 1), .ref ((r0 + 7) + 2)]))) (h_r0p7p1 : F ((r0 + 7) + 1) = some (.inr (12, [.ref r0p7p1_elementData, .int ir0p7p1_size, .int ir0p7p1_modCount]))) (hb_rc83 : rc83 + bc83 ≤ bc) (hs_rs83 : rs83 + bs83 ≤ bs)
    (c96_0 : (ir0p10_stopped = 0) → Cal l X M_AL_size 0 0 [.ref ((r0 + 7) + 1)] n F (ev_pure (.int v96) n F))
    (q99_1 : (ir0p10_stopped = 0) → Q (some (.int v96)) n F)
    (c83_2 : (¬ ir0p10_stopped = 0) → Cal l X M_P_goDown bc83 bs83 [.ref r0] n F Q83)
    (k86_3 : (¬ ir0p10_stopped = 0) → ∀ v2 n2 F2, Q83 v2 n2 F2 → Ev l X M_P_merge rc83 rs83 86 [(0, .ref r0), (1, .int i1), (2, .ref r2)] (v2.toList ++ []) n2 F2 (ev_mq X Q)) :
    Ev l X M_P_merge bc bs 72 [(0, .ref r0), (1, .int i1), (2, .ref r2)] [] n F (ev_mq X Q) := by
  refine ev_aload_n (pc := 72) d_P_merge_72 rfl ?_
  refine ev_getfield (pc := 73) 5 d_P_merge_73 fl_P_41 h_r0 rfl ?_
  refine ev_getfield (pc := 76) 2 d_P_merge_76 fl_P_74 h_r0p10 rfl ?_
  refine ev_if_eq (pc := 79) 89 d_P_merge_79 (by decide) (fun c79 => ?_) (fun c79 => ?_)
  · refine ev_aload_n (pc := 89) d_P_merge_89 rfl ?_
    refine ev_getfield (pc := 90) 4 d_P_merge_90 fl_P_34 h_r0 rfl ?_
    refine ev_getfield (pc := 93) 0 d_P_merge_93 fl_P_118 h_r0p7 rfl ?_
    refine ev_invokevirtual (pc := 96) (As := []) (st := []) (Q2 := ev_pure (.int v96) n F) (bc1 := 0) (bs1 := 0) M_AL_size rC12 d_P_merge_96 lc_P_121 wd_469 wd_470 rfl h_r0p7p1 rfl rfl (Nat.le_of_ble_eq_true rfl) (Nat.le_of_ble_eq_true rfl) (Nat.le_of_ble_eq_true rfl) (Nat.le_refl _) (Nat.le_refl _) (c96_0 c79) ?_
    refine ev_purek ?_
    exact ev_ireturn (pc := 99) d_P_merge_99 rfl rfl (q99_1 c79)
  · refine ev_aload_n (pc := 82) d_P_merge_82 rfl ?_
    exact ev_invokevirtual (pc := 83) (As := []) (st := []) (Q2 := Q83) M_P_goDown rC0 d_P_merge_83 lc_P_140 wd_646 wd_s22 rfl h_r0 rfl rfl (Nat.le_of_ble_eq_true rfl) (Nat.le_of_ble_eq_true rfl) (Nat.le_of_ble_eq_true rfl) hb_rc83 hs_rs83 (c83_2 c79) (k86_3 c79)

set_option maxRecDepth 100000 in
set_option maxHeartbeats 4000000 in
theorem s_P_merge_43 {l : Launch} {X : ev_X} {bc bs n : Nat} {F : ev_H} {Q : Option Value → Nat → ev_H → Prop} {r0 : Nat} {i1 : Int32} {rs0 : Nat} {ir0_draftWords : Int32} {irs0_deletedIds : Int32} {rs0p1_elementData : Nat} {irs0p1_size : Int32} {irs0p1_modCount : Int32} {v52 : Int32} {ir0p10_blocksWritten : Int32} {ir0p10_blocksToStop : Int32} {ir0p10_stopped : Int32} {Q57 : Option Value → Nat → ev_H → Prop} {bc57 : Nat} {bs57 : Nat} {rc57 : Nat} {rs57 : Nat} (h_r0 : F r0 = some (psO r0 ir0_draftWords)) (h_rs0 : F rs0 = some (.inr (9, [.ref (rs0 + 1), .int irs0_deletedIds]))) (h_rs0p1 : F (rs0 + 1) = some (.inr (12, [.ref rs0p1_elementData, .int irs0p1_size, .int irs0p1_modCount]))) (h_r0p10 : F (r0 + 10) = some (.inr (4, [.int ir0p10_blocksWritten, .int ir0p10_blocksToStop, .int ir0p10_stopped]))) (hb_rc57 : rc57 + bc57 ≤ bc) (hs_rs57 : rs57 + bs57 ≤ bs)
    (c52_0 : Cal l X M_AL_size 0 0 [.ref (rs0 + 1)] n F (ev_pure (.int v52) n F))
    (c57_1 : Cal l X M_Ma_writeBlocks bc57 bs57 [.ref (r0 + 10), .int (v52 + 1)] n F Q57)
    (k60_2 : ∀ v2 n2 F2, Q57 v2 n2 F2 → Ev l X M_P_merge rc57 rs57 60 [(0, .ref r0), (1, .int i1), (2, .ref rs0)] (v2.toList ++ []) n2 F2 (ev_mq X Q)) :
    Ev l X M_P_merge bc bs 43 [(0, .ref r0), (1, .int i1)] [.ref rs0] n F (ev_mq X Q) := by
  refine ev_astore_n (pc := 43) d_P_merge_43 (Nat.le_of_ble_eq_true rfl) [1, 2, 0] rfl ?_
  refine ev_aload_n (pc := 44) d_P_merge_44 rfl ?_
  refine ev_getfield (pc := 45) 5 d_P_merge_45 fl_P_41 h_r0 rfl ?_
  refine ev_aload_n (pc := 48) d_P_merge_48 rfl ?_
  refine ev_getfield (pc := 49) 0 d_P_merge_49 fl_P_150 h_rs0 rfl ?_
  refine ev_invokevirtual (pc := 52) (As := []) (st := [.ref (r0 + 10)]) (Q2 := ev_pure (.int v52) n F) (bc1 := 0) (bs1 := 0) M_AL_size rC12 d_P_merge_52 lc_P_121 wd_469 wd_470 rfl h_rs0p1 rfl rfl (Nat.le_of_ble_eq_true rfl) (Nat.le_of_ble_eq_true rfl) (Nat.le_of_ble_eq_true rfl) (Nat.le_refl _) (Nat.le_refl _) c52_0 ?_
  refine ev_purek ?_
  refine ev_iconst (pc := 55) 1 d_P_merge_55 (by decide) ?_
  refine ev_iadd (pc := 56) d_P_merge_56 ?_
  exact ev_invokevirtual (pc := 57) (As := [.int (v52 + 1)]) (st := []) (Q2 := Q57) M_Ma_writeBlocks rC4 d_P_merge_57 lc_P_130 wd_584 wd_585 rfl h_r0p10 rfl rfl (Nat.le_of_ble_eq_true rfl) (Nat.le_of_ble_eq_true rfl) (Nat.le_of_ble_eq_true rfl) hb_rc57 hs_rs57 c57_1 k60_2

set_option maxRecDepth 100000 in
set_option maxHeartbeats 4000000 in
theorem s_P_merge_86 {l : Launch} {X : ev_X} {bc bs n : Nat} {F : ev_H} {Q : Option Value → Nat → ev_H → Prop} {r0 : Nat} {i1 : Int32} {r2 : Nat} {is0 : Int32} 
    (q99_0 : Q (some (.int is0)) n F) :
    Ev l X M_P_merge bc bs 86 [(0, .ref r0), (1, .int i1), (2, .ref r2)] [.int is0] n F (ev_mq X Q) := by
  refine ev_goto (pc := 86) 99 d_P_merge_86 (by decide) ?_
  exact ev_ireturn (pc := 99) d_P_merge_99 rfl rfl q99_0

set_option maxRecDepth 100000 in
set_option maxHeartbeats 4000000 in
theorem s_P_merge_60 {l : Launch} {X : ev_X} {bc bs n : Nat} {F : ev_H} {Q : Option Value → Nat → ev_H → Prop} {r0 : Nat} {i1 : Int32} {r2 : Nat} {is0 : Int32} {ir0_draftWords : Int32} {Q69 : Option Value → Nat → ev_H → Prop} {bc69 : Nat} {bs69 : Nat} {rc69 : Nat} {rs69 : Nat} (h_r0 : F r0 = some (psO r0 ir0_draftWords)) (h_r0p7 : F (r0 + 7) = some (.inr (3, [.ref ((r0 + 7) + 1), .ref ((r0 + 7) + 2)]))) (hb_rc69 : rc69 + bc69 ≤ bc) (hs_rs69 : rs69 + bs69 ≤ bs)
    (k72_0 : (is0 = 0) → Ev l X M_P_merge bc bs 72 [(0, .ref r0), (1, .int i1), (2, .ref r2)] [] n F (ev_mq X Q))
    (c69_1 : (¬ is0 = 0) → Cal l X M_Sh_replaceTwo bc69 bs69 [.ref (r0 + 7), .int i1, .ref r2] n F Q69)
    (k72_2 : (¬ is0 = 0) → ∀ v2 n2 F2, Q69 v2 n2 F2 → Ev l X M_P_merge rc69 rs69 72 [(0, .ref r0), (1, .int i1), (2, .ref r2)] (v2.toList ++ []) n2 F2 (ev_mq X Q)) :
    Ev l X M_P_merge bc bs 60 [(0, .ref r0), (1, .int i1), (2, .ref r2)] [.int is0] n F (ev_mq X Q) := by
  refine ev_if_eq (pc := 60) 72 d_P_merge_60 (by decide) (fun c60 => ?_) (fun c60 => ?_)
  · exact (k72_0 c60)
  · refine ev_aload_n (pc := 63) d_P_merge_63 rfl ?_
    refine ev_getfield (pc := 64) 4 d_P_merge_64 fl_P_34 h_r0 rfl ?_
    refine ev_iload_n (pc := 67) d_P_merge_67 rfl ?_
    refine ev_aload_n (pc := 68) d_P_merge_68 rfl ?_
    exact ev_invokevirtual (pc := 69) (As := [.int i1, .ref r2]) (st := []) (Q2 := Q69) M_Sh_replaceTwo rC3 d_P_merge_69 lc_P_153 wd_675 wd_676 rfl h_r0p7 rfl rfl (Nat.le_of_ble_eq_true rfl) (Nat.le_of_ble_eq_true rfl) (Nat.le_of_ble_eq_true rfl) hb_rc69 hs_rs69 (c69_1 c60) (k72_2 c60)
set_option maxRecDepth 100000 in
set_option maxHeartbeats 4000000 in
theorem s_P_fuse_0 {l : Launch} {X : ev_X} {bc bs n : Nat} {F : ev_H} {Q : Option Value → Nat → ev_H → Prop} {r0 : Nat} {i1 : Int32} {ir0_draftWords : Int32} {ir0p10_blocksWritten : Int32} {ir0p10_blocksToStop : Int32} {ir0p10_stopped : Int32} (h_r0 : F r0 = some (psO r0 ir0_draftWords)) (h_r0p10 : F (r0 + 10) = some (.inr (4, [.int ir0p10_blocksWritten, .int ir0p10_blocksToStop, .int ir0p10_stopped])))
    (q22_0 : (¬ ir0p10_stopped = 0) → Q (some (.int 0)) n F)
    (q22_1 : (ir0p10_stopped = 0) → (i1 < 1) → Q (some (.int 0)) n F)
    (q32_2 : (ir0p10_stopped = 0) → (¬ i1 < 1) → (i1 ≤ 100) → Q (some (.int 1)) n (ev_up F (r0 + 10) (.inr (4, [.int ir0p10_blocksWritten, .int i1, .int ir0p10_stopped]))))
    (q22_3 : (ir0p10_stopped = 0) → (¬ i1 < 1) → (¬ i1 ≤ 100) → Q (some (.int 0)) n F) :
    Ev l X M_P_fuse bc bs 0 [(0, .ref r0), (1, .int i1)] [] n F (ev_mq X Q) := by
  refine ev_aload_n (pc := 0) d_P_fuse_0 rfl ?_
  refine ev_getfield (pc := 1) 5 d_P_fuse_1 fl_P_41 h_r0 rfl ?_
  refine ev_getfield (pc := 4) 2 d_P_fuse_4 fl_P_74 h_r0p10 rfl ?_
  refine ev_if_ne (pc := 7) 21 d_P_fuse_7 (by decide) (fun c7 => ?_) (fun c7 => ?_)
  · refine ev_iconst (pc := 21) 0 d_P_fuse_21 (by decide) ?_
    exact ev_ireturn (pc := 22) d_P_fuse_22 rfl rfl (q22_0 c7)
  · refine ev_iload_n (pc := 10) d_P_fuse_10 rfl ?_
    refine ev_iconst (pc := 11) 1 d_P_fuse_11 (by decide) ?_
    refine ev_icmp_lt (pc := 12) 21 d_P_fuse_12 (by decide) (fun c12 => ?_) (fun c12 => ?_)
    · refine ev_iconst (pc := 21) 0 d_P_fuse_21 (by decide) ?_
      exact ev_ireturn (pc := 22) d_P_fuse_22 rfl rfl (q22_1 c7 c12)
    · refine ev_iload_n (pc := 15) d_P_fuse_15 rfl ?_
      refine ev_bipush (pc := 16) 100 d_P_fuse_16 (by decide) ?_
      refine ev_icmp_le (pc := 18) 23 d_P_fuse_18 (by decide) (fun c18 => ?_) (fun c18 => ?_)
      · refine ev_aload_n (pc := 23) d_P_fuse_23 rfl ?_
        refine ev_getfield (pc := 24) 5 d_P_fuse_24 fl_P_41 h_r0 rfl ?_
        refine ev_iload_n (pc := 27) d_P_fuse_27 rfl ?_
        refine ev_putfield (pc := 28) 1 _ d_P_fuse_28 fl_P_157 h_r0p10 pf_4_blocksToStop rfl rfl (Nat.le_of_ble_eq_true rfl) (fun F1_ hF1_ => ?_)
        have g2_ : F1_ r0 = some (psO r0 ir0_draftWords) := by rw [← hF1_]; exact ev_up_k (ev_ne_oo h_r0 h_r0p10 rfl) h_r0
        have g3_ : F1_ (r0 + 10) = some (.inr (4, [.int ir0p10_blocksWritten, .int i1, .int ir0p10_stopped])) := by rw [← hF1_]; exact ev_up_s
        refine ev_iconst (pc := 31) 1 d_P_fuse_31 (by decide) ?_
        exact ev_ireturn (pc := 32) d_P_fuse_32 rfl rfl (by subst hF1_; exact (q32_2 c7 c12 c18))
      · refine ev_iconst (pc := 21) 0 d_P_fuse_21 (by decide) ?_
        exact ev_ireturn (pc := 22) d_P_fuse_22 rfl rfl (q22_3 c7 c12 c18)
set_option maxRecDepth 100000 in
set_option maxHeartbeats 4000000 in
theorem s_P_restart_0 {l : Launch} {X : ev_X} {bc bs n : Nat} {F : ev_H} {Q : Option Value → Nat → ev_H → Prop} {r0 : Nat} {ir0_draftWords : Int32} {ir0p10_blocksWritten : Int32} {ir0p10_blocksToStop : Int32} {ir0p10_stopped : Int32} (h_r0 : F r0 = some (psO r0 ir0_draftWords)) (h_r0p10 : F (r0 + 10) = some (.inr (4, [.int ir0p10_blocksWritten, .int ir0p10_blocksToStop, .int ir0p10_stopped])))
    (q17_0 : Q (some (.int ir0p10_stopped)) n (ev_up F (r0 + 10) (.inr (4, [.int ir0p10_blocksWritten, .int ir0p10_blocksToStop, .int 0]))))
    (nr17_1 : narrow .boolean (.int ir0p10_stopped) = .int ir0p10_stopped) :
    Ev l X M_P_restart bc bs 0 [(0, .ref r0)] [] n F (ev_mq X Q) := by
  refine ev_aload_n (pc := 0) d_P_restart_0 rfl ?_
  refine ev_getfield (pc := 1) 5 d_P_restart_1 fl_P_41 h_r0 rfl ?_
  refine ev_getfield (pc := 4) 2 d_P_restart_4 fl_P_74 h_r0p10 rfl ?_
  refine ev_istore_n (pc := 7) d_P_restart_7 (Nat.le_of_ble_eq_true rfl) [1, 0] rfl ?_
  refine ev_aload_n (pc := 8) d_P_restart_8 rfl ?_
  refine ev_getfield (pc := 9) 5 d_P_restart_9 fl_P_41 h_r0 rfl ?_
  refine ev_iconst (pc := 12) 0 d_P_restart_12 (by decide) ?_
  refine ev_putfield (pc := 13) 2 _ d_P_restart_13 fl_P_74 h_r0p10 pf_4_stopped rfl rfl (Nat.le_of_ble_eq_true rfl) (fun F1_ hF1_ => ?_)
  have g2_ : F1_ r0 = some (psO r0 ir0_draftWords) := by rw [← hF1_]; exact ev_up_k (ev_ne_oo h_r0 h_r0p10 rfl) h_r0
  have g3_ : F1_ (r0 + 10) = some (.inr (4, [.int ir0p10_blocksWritten, .int ir0p10_blocksToStop, .int 0])) := by rw [← hF1_]; exact ev_up_s
  refine ev_iload_n (pc := 16) d_P_restart_16 rfl ?_
  exact ev_ireturn (pc := 17) d_P_restart_17 rfl nr17_1 (by subst hF1_; exact q17_0)
set_option maxRecDepth 100000 in
set_option maxHeartbeats 4000000 in
theorem s_P_term_0 {l : Launch} {X : ev_X} {bc bs n : Nat} {F : ev_H} {Q : Option Value → Nat → ev_H → Prop} {r0 : Nat} {j1 : Int64} {ir0_draftWords : Int32} {ir0p10_blocksWritten : Int32} {ir0p10_blocksToStop : Int32} {ir0p10_stopped : Int32} {v14 : Int32} {ir0p11_height : Int32} {ir0p1_length : Int32} {Q43 : Option Value → Nat → ev_H → Prop} {bc43 : Nat} {bs43 : Nat} {rc43 : Nat} {rs43 : Nat} (h_r0 : F r0 = some (psO r0 ir0_draftWords)) (h_r0p10 : F (r0 + 10) = some (.inr (4, [.int ir0p10_blocksWritten, .int ir0p10_blocksToStop, .int ir0p10_stopped]))) (h_r0p11 : F (r0 + 11) = some (.inr (5, [.ref ((r0 + 11) + 1), .ref ((r0 + 11) + 2), .int ir0p11_height]))) (h_r0p1 : F (r0 + 1) = some (.inr (1, [.ref ((r0 + 1) + 1), .ref ((r0 + 1) + 2), .int ir0p1_length]))) (hb_rc43 : rc43 + bc43 ≤ bc) (hs_rs43 : rs43 + bs43 ≤ bs)
    (c14_0 : (ir0p10_stopped = 0) → Cal l X M_St_isWord 0 0 [.long j1] n F (ev_pure (.int v14) n F))
    (q33_1 : (ir0p10_stopped = 0) → (v14 = 0) → Q (some (.int (-1))) n F)
    (c43_2 : (ir0p10_stopped = 0) → (¬ v14 = 0) → (ir0p11_height < 8) → Cal l X M_St_termOf bc43 bs43 [.ref (r0 + 1), .long j1] n F Q43)
    (k46_3 : (ir0p10_stopped = 0) → (¬ v14 = 0) → (ir0p11_height < 8) → ∀ v2 n2 F2, Q43 v2 n2 F2 → Ev l X M_P_term rc43 rs43 46 [(0, .ref r0), (1, .long j1)] (v2.toList ++ [.ref (r0 + 11)]) n2 F2 (ev_mq X Q))
    (q33_4 : (ir0p10_stopped = 0) → (¬ v14 = 0) → (¬ ir0p11_height < 8) → Q (some (.int (-1))) n F)
    (q12_5 : (¬ ir0p10_stopped = 0) → Q (some (.int (-9))) n F) :
    Ev l X M_P_term bc bs 0 [(0, .ref r0), (1, .long j1)] [] n F (ev_mq X Q) := by
  refine ev_aload_n (pc := 0) d_P_term_0 rfl ?_
  refine ev_getfield (pc := 1) 5 d_P_term_1 fl_P_41 h_r0 rfl ?_
  refine ev_getfield (pc := 4) 2 d_P_term_4 fl_P_74 h_r0p10 rfl ?_
  refine ev_if_eq (pc := 7) 13 d_P_term_7 (by decide) (fun c7 => ?_) (fun c7 => ?_)
  · refine ev_lload_n (pc := 13) d_P_term_13 rfl ?_
    refine ev_invokestatic (pc := 14) (As := [.long j1]) (st := []) (Q2 := ev_pure (.int v14) n F) (bc1 := 0) (bs1 := 0) M_St_isWord d_P_term_14 lc_P_66 wd_228 rfl rfl (Nat.le_of_ble_eq_true rfl) (Nat.le_of_ble_eq_true rfl) (Nat.le_of_ble_eq_true rfl) (Nat.le_refl _) (Nat.le_refl _) (c14_0 c7) ?_
    refine ev_purek ?_
    refine ev_if_eq (pc := 17) 32 d_P_term_17 (by decide) (fun c17 => ?_) (fun c17 => ?_)
    · refine ev_iconst (pc := 32) (-1) d_P_term_32 (by decide) ?_
      exact ev_ireturn (pc := 33) d_P_term_33 rfl rfl (q33_1 c7 c17)
    · refine ev_aload_n (pc := 20) d_P_term_20 rfl ?_
      refine ev_getfield (pc := 21) 6 d_P_term_21 fl_P_48 h_r0 rfl ?_
      refine ev_getfield (pc := 24) 2 d_P_term_24 fl_P_160 h_r0p11 rfl ?_
      refine ev_bipush (pc := 27) 8 d_P_term_27 (by decide) ?_
      refine ev_icmp_lt (pc := 29) 34 d_P_term_29 (by decide) (fun c29 => ?_) (fun c29 => ?_)
      · refine ev_aload_n (pc := 34) d_P_term_34 rfl ?_
        refine ev_getfield (pc := 35) 6 d_P_term_35 fl_P_48 h_r0 rfl ?_
        refine ev_aload_n (pc := 38) d_P_term_38 rfl ?_
        refine ev_getfield (pc := 39) 0 d_P_term_39 fl_P_10 h_r0 rfl ?_
        refine ev_lload_n (pc := 42) d_P_term_42 rfl ?_
        exact ev_invokevirtual (pc := 43) (As := [.long j1]) (st := [.ref (r0 + 11)]) (Q2 := Q43) M_St_termOf rC1 d_P_term_43 lc_P_78 wd_412 wd_413 rfl h_r0p1 rfl rfl (Nat.le_of_ble_eq_true rfl) (Nat.le_of_ble_eq_true rfl) (Nat.le_of_ble_eq_true rfl) hb_rc43 hs_rs43 (c43_2 c7 c17 c29) (k46_3 c7 c17 c29)
      · refine ev_iconst (pc := 32) (-1) d_P_term_32 (by decide) ?_
        exact ev_ireturn (pc := 33) d_P_term_33 rfl rfl (q33_4 c7 c17 c29)
  · refine ev_bipush (pc := 10) (-9) d_P_term_10 (by decide) ?_
    exact ev_ireturn (pc := 12) d_P_term_12 rfl rfl (q12_5 c7)

set_option maxRecDepth 100000 in
set_option maxHeartbeats 4000000 in
theorem s_P_term_46 {l : Launch} {X : ev_X} {bc bs n : Nat} {F : ev_H} {Q : Option Value → Nat → ev_H → Prop} {r0 : Nat} {j1 : Int64} {rs0 : Nat} {js1 : Int64} {irs0_height : Int32} {Q46 : Option Value → Nat → ev_H → Prop} {bc46 : Nat} {bs46 : Nat} {rc46 : Nat} {rs46 : Nat} (h_rs0 : F rs0 = some (.inr (5, [.ref (rs0 + 1), .ref (rs0 + 2), .int irs0_height]))) (hb_rc46 : rc46 + bc46 ≤ bc) (hs_rs46 : rs46 + bs46 ≤ bs)
    (c46_0 : Cal l X M_Qs_pushTerm bc46 bs46 [.ref rs0, .long js1] n F Q46)
    (k49_1 : ∀ v2 n2 F2, Q46 v2 n2 F2 → Ev l X M_P_term rc46 rs46 49 [(0, .ref r0), (1, .long j1)] (v2.toList ++ []) n2 F2 (ev_mq X Q)) :
    Ev l X M_P_term bc bs 46 [(0, .ref r0), (1, .long j1)] [.long js1, .ref rs0] n F (ev_mq X Q) := by
  exact ev_invokevirtual (pc := 46) (As := [.long js1]) (st := []) (Q2 := Q46) M_Qs_pushTerm rC5 d_P_term_46 lc_P_163 wd_695 wd_696 rfl h_rs0 rfl rfl (Nat.le_of_ble_eq_true rfl) (Nat.le_of_ble_eq_true rfl) (Nat.le_of_ble_eq_true rfl) hb_rc46 hs_rs46 c46_0 k49_1

set_option maxRecDepth 100000 in
set_option maxHeartbeats 4000000 in
theorem s_P_term_49 {l : Launch} {X : ev_X} {bc bs n : Nat} {F : ev_H} {Q : Option Value → Nat → ev_H → Prop} {r0 : Nat} {j1 : Int64} {is0 : Int32} 
    (q49_0 : Q (some (.int is0)) n F) :
    Ev l X M_P_term bc bs 49 [(0, .ref r0), (1, .long j1)] [.int is0] n F (ev_mq X Q) := by
  exact ev_ireturn (pc := 49) d_P_term_49 rfl rfl q49_0
set_option maxRecDepth 100000 in
set_option maxHeartbeats 4000000 in
theorem s_P_phrase_0 {l : Launch} {X : ev_X} {bc bs n : Nat} {F : ev_H} {Q : Option Value → Nat → ev_H → Prop} {r0 : Nat} {i1 : Int32} {ir0_draftWords : Int32} {ir0p10_blocksWritten : Int32} {ir0p10_blocksToStop : Int32} {ir0p10_stopped : Int32} {ir0p11_height : Int32} {v34 : Int32} {Q47 : Option Value → Nat → ev_H → Prop} {bc47 : Nat} {bs47 : Nat} {rc47 : Nat} {rs47 : Nat} (h_r0 : F r0 = some (psO r0 ir0_draftWords)) (h_r0p10 : F (r0 + 10) = some (.inr (4, [.int ir0p10_blocksWritten, .int ir0p10_blocksToStop, .int ir0p10_stopped]))) (h_r0p11 : F (r0 + 11) = some (.inr (5, [.ref ((r0 + 11) + 1), .ref ((r0 + 11) + 2), .int ir0p11_height]))) (hb_rc47 : rc47 + bc47 ≤ bc) (hs_rs47 : rs47 + bs47 ≤ bs)
    (q41_0 : (ir0p10_stopped = 0) → (i1 < 2) → Q (some (.int (-1))) n F)
    (q41_1 : (ir0p10_stopped = 0) → (¬ i1 < 2) → (ir0p11_height < i1) → Q (some (.int (-1))) n F)
    (c34_2 : (ir0p10_stopped = 0) → (¬ i1 < 2) → (¬ ir0p11_height < i1) → Cal l X M_Qs_areTerms 0 0 [.ref (r0 + 11), .int i1] n F (ev_pure (.int v34) n F))
    (c47_3 : (ir0p10_stopped = 0) → (¬ i1 < 2) → (¬ ir0p11_height < i1) → (¬ v34 = 0) → Cal l X M_Qs_makePhrase bc47 bs47 [.ref (r0 + 11), .int i1] n F Q47)
    (k50_4 : (ir0p10_stopped = 0) → (¬ i1 < 2) → (¬ ir0p11_height < i1) → (¬ v34 = 0) → ∀ v2 n2 F2, Q47 v2 n2 F2 → Ev l X M_P_phrase rc47 rs47 50 [(0, .ref r0), (1, .int i1)] (v2.toList ++ []) n2 F2 (ev_mq X Q))
    (q41_5 : (ir0p10_stopped = 0) → (¬ i1 < 2) → (¬ ir0p11_height < i1) → (v34 = 0) → Q (some (.int (-1))) n F)
    (q12_6 : (¬ ir0p10_stopped = 0) → Q (some (.int (-9))) n F) :
    Ev l X M_P_phrase bc bs 0 [(0, .ref r0), (1, .int i1)] [] n F (ev_mq X Q) := by
  refine ev_aload_n (pc := 0) d_P_phrase_0 rfl ?_
  refine ev_getfield (pc := 1) 5 d_P_phrase_1 fl_P_41 h_r0 rfl ?_
  refine ev_getfield (pc := 4) 2 d_P_phrase_4 fl_P_74 h_r0p10 rfl ?_
  refine ev_if_eq (pc := 7) 13 d_P_phrase_7 (by decide) (fun c7 => ?_) (fun c7 => ?_)
  · refine ev_iload_n (pc := 13) d_P_phrase_13 rfl ?_
    refine ev_iconst (pc := 14) 2 d_P_phrase_14 (by decide) ?_
    refine ev_icmp_lt (pc := 15) 40 d_P_phrase_15 (by decide) (fun c15 => ?_) (fun c15 => ?_)
    · refine ev_iconst (pc := 40) (-1) d_P_phrase_40 (by decide) ?_
      exact ev_ireturn (pc := 41) d_P_phrase_41 rfl rfl (q41_0 c7 c15)
    · refine ev_iload_n (pc := 18) d_P_phrase_18 rfl ?_
      refine ev_aload_n (pc := 19) d_P_phrase_19 rfl ?_
      refine ev_getfield (pc := 20) 6 d_P_phrase_20 fl_P_48 h_r0 rfl ?_
      refine ev_getfield (pc := 23) 2 d_P_phrase_23 fl_P_160 h_r0p11 rfl ?_
      refine ev_icmp_gt (pc := 26) 40 d_P_phrase_26 (by decide) (fun c26 => ?_) (fun c26 => ?_)
      · refine ev_iconst (pc := 40) (-1) d_P_phrase_40 (by decide) ?_
        exact ev_ireturn (pc := 41) d_P_phrase_41 rfl rfl (q41_1 c7 c15 c26)
      · refine ev_aload_n (pc := 29) d_P_phrase_29 rfl ?_
        refine ev_getfield (pc := 30) 6 d_P_phrase_30 fl_P_48 h_r0 rfl ?_
        refine ev_iload_n (pc := 33) d_P_phrase_33 rfl ?_
        refine ev_invokevirtual (pc := 34) (As := [.int i1]) (st := []) (Q2 := ev_pure (.int v34) n F) (bc1 := 0) (bs1 := 0) M_Qs_areTerms rC5 d_P_phrase_34 lc_P_167 wd_723 wd_724 rfl h_r0p11 rfl rfl (Nat.le_of_ble_eq_true rfl) (Nat.le_of_ble_eq_true rfl) (Nat.le_of_ble_eq_true rfl) (Nat.le_refl _) (Nat.le_refl _) (c34_2 c7 c15 c26) ?_
        refine ev_purek ?_
        refine ev_if_ne (pc := 37) 42 d_P_phrase_37 (by decide) (fun c37 => ?_) (fun c37 => ?_)
        · refine ev_aload_n (pc := 42) d_P_phrase_42 rfl ?_
          refine ev_getfield (pc := 43) 6 d_P_phrase_43 fl_P_48 h_r0 rfl ?_
          refine ev_iload_n (pc := 46) d_P_phrase_46 rfl ?_
          exact ev_invokevirtual (pc := 47) (As := [.int i1]) (st := []) (Q2 := Q47) M_Qs_makePhrase rC5 d_P_phrase_47 lc_P_170 wd_732 wd_733 rfl h_r0p11 rfl rfl (Nat.le_of_ble_eq_true rfl) (Nat.le_of_ble_eq_true rfl) (Nat.le_of_ble_eq_true rfl) hb_rc47 hs_rs47 (c47_3 c7 c15 c26 c37) (k50_4 c7 c15 c26 c37)
        · refine ev_iconst (pc := 40) (-1) d_P_phrase_40 (by decide) ?_
          exact ev_ireturn (pc := 41) d_P_phrase_41 rfl rfl (q41_5 c7 c15 c26 c37)
  · refine ev_bipush (pc := 10) (-9) d_P_phrase_10 (by decide) ?_
    exact ev_ireturn (pc := 12) d_P_phrase_12 rfl rfl (q12_6 c7)

set_option maxRecDepth 100000 in
set_option maxHeartbeats 4000000 in
theorem s_P_phrase_50 {l : Launch} {X : ev_X} {bc bs n : Nat} {F : ev_H} {Q : Option Value → Nat → ev_H → Prop} {r0 : Nat} {i1 : Int32} {is0 : Int32} 
    (q50_0 : Q (some (.int is0)) n F) :
    Ev l X M_P_phrase bc bs 50 [(0, .ref r0), (1, .int i1)] [.int is0] n F (ev_mq X Q) := by
  exact ev_ireturn (pc := 50) d_P_phrase_50 rfl rfl q50_0
set_option maxRecDepth 100000 in
set_option maxHeartbeats 4000000 in
theorem s_P_join_0 {l : Launch} {X : ev_X} {bc bs n : Nat} {F : ev_H} {Q : Option Value → Nat → ev_H → Prop} {r0 : Nat} {i1 : Int32} {ir0_draftWords : Int32} {ir0p10_blocksWritten : Int32} {ir0p10_blocksToStop : Int32} {ir0p10_stopped : Int32} (h_r0 : F r0 = some (psO r0 ir0_draftWords)) (h_r0p10 : F (r0 + 10) = some (.inr (4, [.int ir0p10_blocksWritten, .int ir0p10_blocksToStop, .int ir0p10_stopped])))
    (q23_0 : (ir0p10_stopped = 0) → (i1 < 0) → Q (some (.int (-1))) n F)
    (k34_1 : (ir0p10_stopped = 0) → (¬ i1 < 0) → (i1 ≤ 2) → (¬ i1 = 2) → Ev l X M_P_join bc bs 34 [(0, .ref r0), (1, .int i1)] [.int 2] n F (ev_mq X Q))
    (k34_2 : (ir0p10_stopped = 0) → (¬ i1 < 0) → (i1 ≤ 2) → (i1 = 2) → Ev l X M_P_join bc bs 34 [(0, .ref r0), (1, .int i1)] [.int 1] n F (ev_mq X Q))
    (q23_3 : (ir0p10_stopped = 0) → (¬ i1 < 0) → (¬ i1 ≤ 2) → Q (some (.int (-1))) n F)
    (q12_4 : (¬ ir0p10_stopped = 0) → Q (some (.int (-9))) n F) :
    Ev l X M_P_join bc bs 0 [(0, .ref r0), (1, .int i1)] [] n F (ev_mq X Q) := by
  refine ev_aload_n (pc := 0) d_P_join_0 rfl ?_
  refine ev_getfield (pc := 1) 5 d_P_join_1 fl_P_41 h_r0 rfl ?_
  refine ev_getfield (pc := 4) 2 d_P_join_4 fl_P_74 h_r0p10 rfl ?_
  refine ev_if_eq (pc := 7) 13 d_P_join_7 (by decide) (fun c7 => ?_) (fun c7 => ?_)
  · refine ev_iload_n (pc := 13) d_P_join_13 rfl ?_
    refine ev_if_lt (pc := 14) 22 d_P_join_14 (by decide) (fun c14 => ?_) (fun c14 => ?_)
    · refine ev_iconst (pc := 22) (-1) d_P_join_22 (by decide) ?_
      exact ev_ireturn (pc := 23) d_P_join_23 rfl rfl (q23_0 c7 c14)
    · refine ev_iload_n (pc := 17) d_P_join_17 rfl ?_
      refine ev_iconst (pc := 18) 2 d_P_join_18 (by decide) ?_
      refine ev_icmp_le (pc := 19) 24 d_P_join_19 (by decide) (fun c19 => ?_) (fun c19 => ?_)
      · refine ev_iload_n (pc := 24) d_P_join_24 rfl ?_
        refine ev_iconst (pc := 25) 2 d_P_join_25 (by decide) ?_
        refine ev_icmp_ne (pc := 26) 33 d_P_join_26 (by decide) (fun c26 => ?_) (fun c26 => ?_)
        · refine ev_iconst (pc := 33) 2 d_P_join_33 (by decide) ?_
          exact (k34_1 c7 c14 c19 c26)
        · refine ev_iconst (pc := 29) 1 d_P_join_29 (by decide) ?_
          refine ev_goto (pc := 30) 34 d_P_join_30 (by decide) ?_
          exact (k34_2 c7 c14 c19 c26)
      · refine ev_iconst (pc := 22) (-1) d_P_join_22 (by decide) ?_
        exact ev_ireturn (pc := 23) d_P_join_23 rfl rfl (q23_3 c7 c14 c19)
  · refine ev_bipush (pc := 10) (-9) d_P_join_10 (by decide) ?_
    exact ev_ireturn (pc := 12) d_P_join_12 rfl rfl (q12_4 c7)

set_option maxRecDepth 100000 in
set_option maxHeartbeats 4000000 in
theorem s_P_join_34 {l : Launch} {X : ev_X} {bc bs n : Nat} {F : ev_H} {Q : Option Value → Nat → ev_H → Prop} {r0 : Nat} {i1 : Int32} {is0 : Int32} {ir0_draftWords : Int32} {ir0p11_height : Int32} {v51 : Int32} {Q67 : Option Value → Nat → ev_H → Prop} {bc67 : Nat} {bs67 : Nat} {rc67 : Nat} {rs67 : Nat} (h_r0 : F r0 = some (psO r0 ir0_draftWords)) (h_r0p11 : F (r0 + 11) = some (.inr (5, [.ref ((r0 + 11) + 1), .ref ((r0 + 11) + 2), .int ir0p11_height]))) (hb_rc67 : rc67 + bc67 ≤ bc) (hs_rs67 : rs67 + bs67 ≤ bs)
    (k59_0 : (ir0p11_height < is0) → Ev l X M_P_join bc bs 59 [(0, .ref r0), (1, .int i1), (2, .int is0)] [] n F (ev_mq X Q))
    (c51_1 : (¬ ir0p11_height < is0) → Cal l X M_Qs_deepest 0 0 [.ref (r0 + 11), .int is0] n F (ev_pure (.int v51) n F))
    (c67_2 : (¬ ir0p11_height < is0) → (v51 < 6) → Cal l X M_Qs_makeJoin bc67 bs67 [.ref (r0 + 11), .int i1, .int is0] n F Q67)
    (k70_3 : (¬ ir0p11_height < is0) → (v51 < 6) → ∀ v2 n2 F2, Q67 v2 n2 F2 → Ev l X M_P_join rc67 rs67 70 [(0, .ref r0), (1, .int i1), (2, .int is0)] (v2.toList ++ []) n2 F2 (ev_mq X Q))
    (k59_4 : (¬ ir0p11_height < is0) → (¬ v51 < 6) → Ev l X M_P_join bc bs 59 [(0, .ref r0), (1, .int i1), (2, .int is0)] [] n F (ev_mq X Q)) :
    Ev l X M_P_join bc bs 34 [(0, .ref r0), (1, .int i1)] [.int is0] n F (ev_mq X Q) := by
  refine ev_istore_n (pc := 34) d_P_join_34 (Nat.le_of_ble_eq_true rfl) [1, 2, 0] rfl ?_
  refine ev_iload_n (pc := 35) d_P_join_35 rfl ?_
  refine ev_aload_n (pc := 36) d_P_join_36 rfl ?_
  refine ev_getfield (pc := 37) 6 d_P_join_37 fl_P_48 h_r0 rfl ?_
  refine ev_getfield (pc := 40) 2 d_P_join_40 fl_P_160 h_r0p11 rfl ?_
  refine ev_icmp_gt (pc := 43) 59 d_P_join_43 (by decide) (fun c43 => ?_) (fun c43 => ?_)
  · exact (k59_0 c43)
  · refine ev_aload_n (pc := 46) d_P_join_46 rfl ?_
    refine ev_getfield (pc := 47) 6 d_P_join_47 fl_P_48 h_r0 rfl ?_
    refine ev_iload_n (pc := 50) d_P_join_50 rfl ?_
    refine ev_invokevirtual (pc := 51) (As := [.int is0]) (st := []) (Q2 := ev_pure (.int v51) n F) (bc1 := 0) (bs1 := 0) M_Qs_deepest rC5 d_P_join_51 lc_P_174 wd_727 wd_728 rfl h_r0p11 rfl rfl (Nat.le_of_ble_eq_true rfl) (Nat.le_of_ble_eq_true rfl) (Nat.le_of_ble_eq_true rfl) (Nat.le_refl _) (Nat.le_refl _) (c51_1 c43) ?_
    refine ev_purek ?_
    refine ev_bipush (pc := 54) 6 d_P_join_54 (by decide) ?_
    refine ev_icmp_lt (pc := 56) 61 d_P_join_56 (by decide) (fun c56 => ?_) (fun c56 => ?_)
    · refine ev_aload_n (pc := 61) d_P_join_61 rfl ?_
      refine ev_getfield (pc := 62) 6 d_P_join_62 fl_P_48 h_r0 rfl ?_
      refine ev_iload_n (pc := 65) d_P_join_65 rfl ?_
      refine ev_iload_n (pc := 66) d_P_join_66 rfl ?_
      exact ev_invokevirtual (pc := 67) (As := [.int i1, .int is0]) (st := []) (Q2 := Q67) M_Qs_makeJoin rC5 d_P_join_67 lc_P_177 wd_748 wd_749 rfl h_r0p11 rfl rfl (Nat.le_of_ble_eq_true rfl) (Nat.le_of_ble_eq_true rfl) (Nat.le_of_ble_eq_true rfl) hb_rc67 hs_rs67 (c67_2 c43 c56) (k70_3 c43 c56)
    · exact (k59_4 c43 c56)

set_option maxRecDepth 100000 in
set_option maxHeartbeats 4000000 in
theorem s_P_join_59 {l : Launch} {X : ev_X} {bc bs n : Nat} {F : ev_H} {Q : Option Value → Nat → ev_H → Prop} {r0 : Nat} {i1 : Int32} {i2 : Int32} 
    (q60_0 : Q (some (.int (-1))) n F) :
    Ev l X M_P_join bc bs 59 [(0, .ref r0), (1, .int i1), (2, .int i2)] [] n F (ev_mq X Q) := by
  refine ev_iconst (pc := 59) (-1) d_P_join_59 (by decide) ?_
  exact ev_ireturn (pc := 60) d_P_join_60 rfl rfl q60_0

set_option maxRecDepth 100000 in
set_option maxHeartbeats 4000000 in
theorem s_P_join_70 {l : Launch} {X : ev_X} {bc bs n : Nat} {F : ev_H} {Q : Option Value → Nat → ev_H → Prop} {r0 : Nat} {i1 : Int32} {i2 : Int32} {is0 : Int32} 
    (q70_0 : Q (some (.int is0)) n F) :
    Ev l X M_P_join bc bs 70 [(0, .ref r0), (1, .int i1), (2, .int i2)] [.int is0] n F (ev_mq X Q) := by
  exact ev_ireturn (pc := 70) d_P_join_70 rfl rfl q70_0
set_option maxRecDepth 100000 in
set_option maxHeartbeats 4000000 in
theorem s_P_find_0 {l : Launch} {X : ev_X} {bc bs n : Nat} {F : ev_H} {Q : Option Value → Nat → ev_H → Prop} {r0 : Nat} {ir0_draftWords : Int32} {ir0p10_blocksWritten : Int32} {ir0p10_blocksToStop : Int32} {ir0p10_stopped : Int32} {ir0p25_count : Int32} {Q17 : Option Value → Nat → ev_H → Prop} {bc17 : Nat} {bs17 : Nat} {rc17 : Nat} {rs17 : Nat} (h_r0 : F r0 = some (psO r0 ir0_draftWords)) (h_r0p10 : F (r0 + 10) = some (.inr (4, [.int ir0p10_blocksWritten, .int ir0p10_blocksToStop, .int ir0p10_stopped]))) (h_r0p25 : F (r0 + 25) = some (.inr (7, [.ref ((r0 + 25) + 1), .ref ((r0 + 25) + 2), .int ir0p25_count]))) (hb_rc17 : rc17 + bc17 ≤ bc) (hs_rs17 : rs17 + bs17 ≤ bs)
    (c17_0 : (ir0p10_stopped = 0) → Cal l X M_Re_clear bc17 bs17 [.ref (r0 + 25)] n F Q17)
    (k20_1 : (ir0p10_stopped = 0) → ∀ v2 n2 F2, Q17 v2 n2 F2 → Ev l X M_P_find rc17 rs17 20 [(0, .ref r0)] (v2.toList ++ []) n2 F2 (ev_mq X Q))
    (q12_2 : (¬ ir0p10_stopped = 0) → Q (some (.int (-9))) n F) :
    Ev l X M_P_find bc bs 0 [(0, .ref r0)] [] n F (ev_mq X Q) := by
  refine ev_aload_n (pc := 0) d_P_find_0 rfl ?_
  refine ev_getfield (pc := 1) 5 d_P_find_1 fl_P_41 h_r0 rfl ?_
  refine ev_getfield (pc := 4) 2 d_P_find_4 fl_P_74 h_r0p10 rfl ?_
  refine ev_if_eq (pc := 7) 13 d_P_find_7 (by decide) (fun c7 => ?_) (fun c7 => ?_)
  · refine ev_aload_n (pc := 13) d_P_find_13 rfl ?_
    refine ev_getfield (pc := 14) 8 d_P_find_14 fl_P_62 h_r0 rfl ?_
    exact ev_invokevirtual (pc := 17) (As := []) (st := []) (Q2 := Q17) M_Re_clear rC7 d_P_find_17 lc_P_181 wd_756 wd_757 rfl h_r0p25 rfl rfl (Nat.le_of_ble_eq_true rfl) (Nat.le_of_ble_eq_true rfl) (Nat.le_of_ble_eq_true rfl) hb_rc17 hs_rs17 (c17_0 c7) (k20_1 c7)
  · refine ev_bipush (pc := 10) (-9) d_P_find_10 (by decide) ?_
    exact ev_ireturn (pc := 12) d_P_find_12 rfl rfl (q12_2 c7)

set_option maxRecDepth 100000 in
set_option maxHeartbeats 4000000 in
theorem s_P_find_36 {l : Launch} {X : ev_X} {bc bs n : Nat} {F : ev_H} {Q : Option Value → Nat → ev_H → Prop} {r0 : Nat} {is0 : Int32} {ir0_draftWords : Int32} {Q42 : Option Value → Nat → ev_H → Prop} {bc42 : Nat} {bs42 : Nat} {rc42 : Nat} {rs42 : Nat} (h_r0 : F r0 = some (psO r0 ir0_draftWords)) (hb_rc42 : rc42 + bc42 ≤ bc) (hs_rs42 : rs42 + bs42 ≤ bs)
    (k45_0 : (is0 = 0) → Ev l X M_P_find bc bs 45 [(0, .ref r0), (1, .int is0)] [] n F (ev_mq X Q))
    (c42_1 : (¬ is0 = 0) → Cal l X M_P_collectMatches bc42 bs42 [.ref r0] n F Q42)
    (k45_2 : (¬ is0 = 0) → ∀ v2 n2 F2, Q42 v2 n2 F2 → Ev l X M_P_find rc42 rs42 45 [(0, .ref r0), (1, .int is0)] (v2.toList ++ []) n2 F2 (ev_mq X Q)) :
    Ev l X M_P_find bc bs 36 [(0, .ref r0)] [.int is0] n F (ev_mq X Q) := by
  refine ev_istore_n (pc := 36) d_P_find_36 (Nat.le_of_ble_eq_true rfl) [1, 0] rfl ?_
  refine ev_iload_n (pc := 37) d_P_find_37 rfl ?_
  refine ev_if_eq (pc := 38) 45 d_P_find_38 (by decide) (fun c38 => ?_) (fun c38 => ?_)
  · exact (k45_0 c38)
  · refine ev_aload_n (pc := 41) d_P_find_41 rfl ?_
    exact ev_invokevirtual (pc := 42) (As := []) (st := []) (Q2 := Q42) M_P_collectMatches rC0 d_P_find_42 lc_P_182 wd_761 wd_s25 rfl h_r0 rfl rfl (Nat.le_of_ble_eq_true rfl) (Nat.le_of_ble_eq_true rfl) (Nat.le_of_ble_eq_true rfl) hb_rc42 hs_rs42 (c42_1 c38) (k45_2 c38)

set_option maxRecDepth 100000 in
set_option maxHeartbeats 4000000 in
theorem s_P_find_45 {l : Launch} {X : ev_X} {bc bs n : Nat} {F : ev_H} {Q : Option Value → Nat → ev_H → Prop} {r0 : Nat} {i1 : Int32} {ir0_draftWords : Int32} {ir0p11_height : Int32} {Q49 : Option Value → Nat → ev_H → Prop} {bc49 : Nat} {bs49 : Nat} {rc49 : Nat} {rs49 : Nat} (h_r0 : F r0 = some (psO r0 ir0_draftWords)) (h_r0p11 : F (r0 + 11) = some (.inr (5, [.ref ((r0 + 11) + 1), .ref ((r0 + 11) + 2), .int ir0p11_height]))) (hb_rc49 : rc49 + bc49 ≤ bc) (hs_rs49 : rs49 + bs49 ≤ bs)
    (c49_0 : Cal l X M_Qs_clear bc49 bs49 [.ref (r0 + 11)] n F Q49)
    (k52_1 : ∀ v2 n2 F2, Q49 v2 n2 F2 → Ev l X M_P_find rc49 rs49 52 [(0, .ref r0), (1, .int i1)] (v2.toList ++ []) n2 F2 (ev_mq X Q)) :
    Ev l X M_P_find bc bs 45 [(0, .ref r0), (1, .int i1)] [] n F (ev_mq X Q) := by
  refine ev_aload_n (pc := 45) d_P_find_45 rfl ?_
  refine ev_getfield (pc := 46) 6 d_P_find_46 fl_P_48 h_r0 rfl ?_
  exact ev_invokevirtual (pc := 49) (As := []) (st := []) (Q2 := Q49) M_Qs_clear rC5 d_P_find_49 lc_P_185 wd_649 wd_650 rfl h_r0p11 rfl rfl (Nat.le_of_ble_eq_true rfl) (Nat.le_of_ble_eq_true rfl) (Nat.le_of_ble_eq_true rfl) hb_rc49 hs_rs49 c49_0 k52_1

set_option maxRecDepth 100000 in
set_option maxHeartbeats 4000000 in
theorem s_P_find_20 {l : Launch} {X : ev_X} {bc bs n : Nat} {F : ev_H} {Q : Option Value → Nat → ev_H → Prop} {r0 : Nat} {ir0_draftWords : Int32} {ir0p11_height : Int32} (h_r0 : F r0 = some (psO r0 ir0_draftWords)) (h_r0p11 : F (r0 + 11) = some (.inr (5, [.ref ((r0 + 11) + 1), .ref ((r0 + 11) + 2), .int ir0p11_height])))
    (k36_0 : (¬ ir0p11_height = 1) → Ev l X M_P_find bc bs 36 [(0, .ref r0)] [.int 0] n F (ev_mq X Q))
    (k36_1 : (ir0p11_height = 1) → Ev l X M_P_find bc bs 36 [(0, .ref r0)] [.int 1] n F (ev_mq X Q)) :
    Ev l X M_P_find bc bs 20 [(0, .ref r0)] [] n F (ev_mq X Q) := by
  refine ev_aload_n (pc := 20) d_P_find_20 rfl ?_
  refine ev_getfield (pc := 21) 6 d_P_find_21 fl_P_48 h_r0 rfl ?_
  refine ev_getfield (pc := 24) 2 d_P_find_24 fl_P_160 h_r0p11 rfl ?_
  refine ev_iconst (pc := 27) 1 d_P_find_27 (by decide) ?_
  refine ev_icmp_ne (pc := 28) 35 d_P_find_28 (by decide) (fun c28 => ?_) (fun c28 => ?_)
  · refine ev_iconst (pc := 35) 0 d_P_find_35 (by decide) ?_
    exact (k36_0 c28)
  · refine ev_iconst (pc := 31) 1 d_P_find_31 (by decide) ?_
    refine ev_goto (pc := 32) 36 d_P_find_32 (by decide) ?_
    exact (k36_1 c28)

set_option maxRecDepth 100000 in
set_option maxHeartbeats 4000000 in
theorem s_P_find_52 {l : Launch} {X : ev_X} {bc bs n : Nat} {F : ev_H} {Q : Option Value → Nat → ev_H → Prop} {r0 : Nat} {i1 : Int32} {ir0_draftWords : Int32} {ir0p25_count : Int32} (h_r0 : F r0 = some (psO r0 ir0_draftWords)) (h_r0p25 : F (r0 + 25) = some (.inr (7, [.ref ((r0 + 25) + 1), .ref ((r0 + 25) + 2), .int ir0p25_count])))
    (q68_0 : (i1 = 0) → Q (some (.int (-3))) n F)
    (q68_1 : (¬ i1 = 0) → Q (some (.int ir0p25_count)) n F) :
    Ev l X M_P_find bc bs 52 [(0, .ref r0), (1, .int i1)] [] n F (ev_mq X Q) := by
  refine ev_iload_n (pc := 52) d_P_find_52 rfl ?_
  refine ev_if_eq (pc := 53) 66 d_P_find_53 (by decide) (fun c53 => ?_) (fun c53 => ?_)
  · refine ev_bipush (pc := 66) (-3) d_P_find_66 (by decide) ?_
    exact ev_ireturn (pc := 68) d_P_find_68 rfl rfl (q68_0 c53)
  · refine ev_aload_n (pc := 56) d_P_find_56 rfl ?_
    refine ev_getfield (pc := 57) 8 d_P_find_57 fl_P_62 h_r0 rfl ?_
    refine ev_getfield (pc := 60) 2 d_P_find_60 fl_P_186 h_r0p25 rfl ?_
    refine ev_goto (pc := 63) 68 d_P_find_63 (by decide) ?_
    exact ev_ireturn (pc := 68) d_P_find_68 rfl rfl (q68_1 c53)
set_option maxRecDepth 100000 in
set_option maxHeartbeats 4000000 in
theorem s_P_collectMatches_0 {l : Launch} {X : ev_X} {bc bs n : Nat} {F : ev_H} {Q : Option Value → Nat → ev_H → Prop} {r0 : Nat} 
    (k2_0 : Ev l X M_P_collectMatches bc bs 2 [(0, .ref r0), (1, .int 0)] [] n F (ev_mq X Q)) :
    Ev l X M_P_collectMatches bc bs 0 [(0, .ref r0)] [] n F (ev_mq X Q) := by
  refine ev_iconst (pc := 0) 0 d_P_collectMatches_0 (by decide) ?_
  refine ev_istore_n (pc := 1) d_P_collectMatches_1 (Nat.le_of_ble_eq_true rfl) [1, 0] rfl ?_
  exact k2_0

set_option maxRecDepth 100000 in
set_option maxHeartbeats 4000000 in
theorem s_P_collectMatches_2 {l : Launch} {X : ev_X} {bc bs n : Nat} {F : ev_H} {Q : Option Value → Nat → ev_H → Prop} {r0 : Nat} {i1 : Int32} {ir0_draftWords : Int32} {r0p7p2_elementData : Nat} {ir0p7p2_size : Int32} {ir0p7p2_modCount : Int32} {v10 : Int32} {v24 : Nat} {iv24_id : Int32} {v24_terms : Nat} {ir0p11_height : Int32} {v36 : Int32} {ir0p25_count : Int32} {Q53 : Option Value → Nat → ev_H → Prop} {bc53 : Nat} {bs53 : Nat} {rc53 : Nat} {rs53 : Nat} (h_r0 : F r0 = some (psO r0 ir0_draftWords)) (h_r0p7 : F (r0 + 7) = some (.inr (3, [.ref ((r0 + 7) + 1), .ref ((r0 + 7) + 2)]))) (h_r0p7p2 : F ((r0 + 7) + 2) = some (.inr (12, [.ref r0p7p2_elementData, .int ir0p7p2_size, .int ir0p7p2_modCount]))) (h_r0p11 : F (r0 + 11) = some (.inr (5, [.ref ((r0 + 11) + 1), .ref ((r0 + 11) + 2), .int ir0p11_height]))) (h_r0p25 : F (r0 + 25) = some (.inr (7, [.ref ((r0 + 25) + 1), .ref ((r0 + 25) + 2), .int ir0p25_count]))) (hb_rc53 : rc53 + bc53 ≤ bc) (hs_rs53 : rs53 + bs53 ≤ bs)
    (c10_0 : Cal l X M_AL_size 0 0 [.ref ((r0 + 7) + 2)] n F (ev_pure (.int v10) n F))
    (q62_1 : (v10 ≤ i1) → Q none n F)
    (c24_2 : (¬ v10 ≤ i1) → Cal l X M_AL_get 0 0 [.ref ((r0 + 7) + 2), .int i1] n F (ev_pure (.ref v24) n F))
    (hv24_3 : (¬ v10 ≤ i1) → F v24 = some (.inr (8, [.int iv24_id, .ref v24_terms])))
    (c36_4 : (¬ v10 ≤ i1) → Cal l X M_Qs_matches 0 0 [.ref (r0 + 11), .ref v24] n F (ev_pure (.int v36) n F))
    (k2_5 : (¬ v10 ≤ i1) → (v36 = 0) → Ev l X M_P_collectMatches bc bs 2 [(0, .ref r0), (1, .int (i1 + 1))] [] n F (ev_mq X Q))
    (c53_6 : (¬ v10 ≤ i1) → (¬ v36 = 0) → Cal l X M_Re_insert bc53 bs53 [.ref (r0 + 25), .int iv24_id, .int 0, .int 12] n F Q53)
    (k56_7 : (¬ v10 ≤ i1) → (¬ v36 = 0) → ∀ v2 n2 F2, Q53 v2 n2 F2 → Ev l X M_P_collectMatches rc53 rs53 56 [(0, .ref r0), (1, .int i1), (2, .ref v24)] (v2.toList ++ []) n2 F2 (ev_mq X Q)) :
    Ev l X M_P_collectMatches bc bs 2 [(0, .ref r0), (1, .int i1)] [] n F (ev_mq X Q) := by
  refine ev_iload_n (pc := 2) d_P_collectMatches_2 rfl ?_
  refine ev_aload_n (pc := 3) d_P_collectMatches_3 rfl ?_
  refine ev_getfield (pc := 4) 4 d_P_collectMatches_4 fl_P_34 h_r0 rfl ?_
  refine ev_getfield (pc := 7) 1 d_P_collectMatches_7 fl_P_143 h_r0p7 rfl ?_
  refine ev_invokevirtual (pc := 10) (As := []) (st := [.int i1]) (Q2 := ev_pure (.int v10) n F) (bc1 := 0) (bs1 := 0) M_AL_size rC12 d_P_collectMatches_10 lc_P_121 wd_469 wd_470 rfl h_r0p7p2 rfl rfl (Nat.le_of_ble_eq_true rfl) (Nat.le_of_ble_eq_true rfl) (Nat.le_of_ble_eq_true rfl) (Nat.le_refl _) (Nat.le_refl _) c10_0 ?_
  refine ev_purek ?_
  refine ev_icmp_ge (pc := 13) 62 d_P_collectMatches_13 (by decide) (fun c13 => ?_) (fun c13 => ?_)
  · exact ev_return (pc := 62) d_P_collectMatches_62 rfl (q62_1 c13)
  · refine ev_aload_n (pc := 16) d_P_collectMatches_16 rfl ?_
    refine ev_getfield (pc := 17) 4 d_P_collectMatches_17 fl_P_34 h_r0 rfl ?_
    refine ev_getfield (pc := 20) 1 d_P_collectMatches_20 fl_P_143 h_r0p7 rfl ?_
    refine ev_iload_n (pc := 23) d_P_collectMatches_23 rfl ?_
    refine ev_invokevirtual (pc := 24) (As := [.int i1]) (st := []) (Q2 := ev_pure (.ref v24) n F) (bc1 := 0) (bs1 := 0) M_AL_get rC12 d_P_collectMatches_24 lc_P_223 wd_473 wd_474 rfl h_r0p7p2 rfl rfl (Nat.le_of_ble_eq_true rfl) (Nat.le_of_ble_eq_true rfl) (Nat.le_of_ble_eq_true rfl) (Nat.le_refl _) (Nat.le_refl _) (c24_2 c13) ?_
    refine ev_purek ?_
    refine ev_checkcast (pc := 27) rC8 d_P_collectMatches_27 wd_428 wd_1203 rfl (hv24_3 c13) ?_
    refine ev_astore_n (pc := 30) d_P_collectMatches_30 (Nat.le_of_ble_eq_true rfl) [1, 2, 0] rfl ?_
    refine ev_aload_n (pc := 31) d_P_collectMatches_31 rfl ?_
    refine ev_getfield (pc := 32) 6 d_P_collectMatches_32 fl_P_48 h_r0 rfl ?_
    refine ev_aload_n (pc := 35) d_P_collectMatches_35 rfl ?_
    refine ev_invokevirtual (pc := 36) (As := [.ref v24]) (st := []) (Q2 := ev_pure (.int v36) n F) (bc1 := 0) (bs1 := 0) M_Qs_matches rC5 d_P_collectMatches_36 lc_P_230 wd_765 wd_766 rfl h_r0p11 rfl rfl (Nat.le_of_ble_eq_true rfl) (Nat.le_of_ble_eq_true rfl) (Nat.le_of_ble_eq_true rfl) (Nat.le_refl _) (Nat.le_refl _) (c36_4 c13) ?_
    refine ev_purek ?_
    refine ev_if_eq (pc := 39) 56 d_P_collectMatches_39 (by decide) (fun c39 => ?_) (fun c39 => ?_)
    · refine ev_iinc (pc := 56) 1 1 d_P_collectMatches_56 rfl (by decide) (Nat.le_of_ble_eq_true rfl) [1, 0, 2] rfl ?_
      refine ev_goto (pc := 59) 2 d_P_collectMatches_59 (by decide) ?_
      exact Ev.sub [0, 1] rfl (k2_5 c13 c39)
    · refine ev_aload_n (pc := 42) d_P_collectMatches_42 rfl ?_
      refine ev_getfield (pc := 43) 8 d_P_collectMatches_43 fl_P_62 h_r0 rfl ?_
      refine ev_aload_n (pc := 46) d_P_collectMatches_46 rfl ?_
      refine ev_getfield (pc := 47) 0 d_P_collectMatches_47 fl_P_234 (hv24_3 c13) rfl ?_
      refine ev_iconst (pc := 50) 0 d_P_collectMatches_50 (by decide) ?_
      refine ev_bipush (pc := 51) 12 d_P_collectMatches_51 (by decide) ?_
      exact ev_invokevirtual (pc := 53) (As := [.int iv24_id, .int 0, .int 12]) (st := []) (Q2 := Q53) M_Re_insert rC7 d_P_collectMatches_53 lc_P_237 wd_781 wd_782 rfl h_r0p25 rfl rfl (Nat.le_of_ble_eq_true rfl) (Nat.le_of_ble_eq_true rfl) (Nat.le_of_ble_eq_true rfl) hb_rc53 hs_rs53 (c53_6 c13 c39) (k56_7 c13 c39)

set_option maxRecDepth 100000 in
set_option maxHeartbeats 4000000 in
theorem s_P_collectMatches_56 {l : Launch} {X : ev_X} {bc bs n : Nat} {F : ev_H} {Q : Option Value → Nat → ev_H → Prop} {r0 : Nat} {i1 : Int32} {r2 : Nat} 
    (k2_0 : Ev l X M_P_collectMatches bc bs 2 [(0, .ref r0), (1, .int (i1 + 1))] [] n F (ev_mq X Q)) :
    Ev l X M_P_collectMatches bc bs 56 [(0, .ref r0), (1, .int i1), (2, .ref r2)] [] n F (ev_mq X Q) := by
  refine ev_iinc (pc := 56) 1 1 d_P_collectMatches_56 rfl (by decide) (Nat.le_of_ble_eq_true rfl) [1, 0, 2] rfl ?_
  refine ev_goto (pc := 59) 2 d_P_collectMatches_59 (by decide) ?_
  exact Ev.sub [0, 1] rfl k2_0
set_option maxRecDepth 100000 in
set_option maxHeartbeats 4000000 in
theorem s_P_rank_0 {l : Launch} {X : ev_X} {bc bs n : Nat} {F : ev_H} {Q : Option Value → Nat → ev_H → Prop} {r0 : Nat} {i1 : Int32} {ir0_draftWords : Int32} {ir0p10_blocksWritten : Int32} {ir0p10_blocksToStop : Int32} {ir0p10_stopped : Int32} {ir0p25_count : Int32} {Q29 : Option Value → Nat → ev_H → Prop} {bc29 : Nat} {bs29 : Nat} {rc29 : Nat} {rs29 : Nat} (h_r0 : F r0 = some (psO r0 ir0_draftWords)) (h_r0p10 : F (r0 + 10) = some (.inr (4, [.int ir0p10_blocksWritten, .int ir0p10_blocksToStop, .int ir0p10_stopped]))) (h_r0p25 : F (r0 + 25) = some (.inr (7, [.ref ((r0 + 25) + 1), .ref ((r0 + 25) + 2), .int ir0p25_count]))) (hb_rc29 : rc29 + bc29 ≤ bc) (hs_rs29 : rs29 + bs29 ≤ bs)
    (q24_0 : (ir0p10_stopped = 0) → (i1 < 1) → Q (some (.int (-1))) n F)
    (c29_1 : (ir0p10_stopped = 0) → (¬ i1 < 1) → (i1 ≤ 5) → Cal l X M_Re_clear bc29 bs29 [.ref (r0 + 25)] n F Q29)
    (k32_2 : (ir0p10_stopped = 0) → (¬ i1 < 1) → (i1 ≤ 5) → ∀ v2 n2 F2, Q29 v2 n2 F2 → Ev l X M_P_rank rc29 rs29 32 [(0, .ref r0), (1, .int i1)] (v2.toList ++ []) n2 F2 (ev_mq X Q))
    (q24_3 : (ir0p10_stopped = 0) → (¬ i1 < 1) → (¬ i1 ≤ 5) → Q (some (.int (-1))) n F)
    (q12_4 : (¬ ir0p10_stopped = 0) → Q (some (.int (-9))) n F) :
    Ev l X M_P_rank bc bs 0 [(0, .ref r0), (1, .int i1)] [] n F (ev_mq X Q) := by
  refine ev_aload_n (pc := 0) d_P_rank_0 rfl ?_
  refine ev_getfield (pc := 1) 5 d_P_rank_1 fl_P_41 h_r0 rfl ?_
  refine ev_getfield (pc := 4) 2 d_P_rank_4 fl_P_74 h_r0p10 rfl ?_
  refine ev_if_eq (pc := 7) 13 d_P_rank_7 (by decide) (fun c7 => ?_) (fun c7 => ?_)
  · refine ev_iload_n (pc := 13) d_P_rank_13 rfl ?_
    refine ev_iconst (pc := 14) 1 d_P_rank_14 (by decide) ?_
    refine ev_icmp_lt (pc := 15) 23 d_P_rank_15 (by decide) (fun c15 => ?_) (fun c15 => ?_)
    · refine ev_iconst (pc := 23) (-1) d_P_rank_23 (by decide) ?_
      exact ev_ireturn (pc := 24) d_P_rank_24 rfl rfl (q24_0 c7 c15)
    · refine ev_iload_n (pc := 18) d_P_rank_18 rfl ?_
      refine ev_iconst (pc := 19) 5 d_P_rank_19 (by decide) ?_
      refine ev_icmp_le (pc := 20) 25 d_P_rank_20 (by decide) (fun c20 => ?_) (fun c20 => ?_)
      · refine ev_aload_n (pc := 25) d_P_rank_25 rfl ?_
        refine ev_getfield (pc := 26) 8 d_P_rank_26 fl_P_62 h_r0 rfl ?_
        exact ev_invokevirtual (pc := 29) (As := []) (st := []) (Q2 := Q29) M_Re_clear rC7 d_P_rank_29 lc_P_181 wd_756 wd_757 rfl h_r0p25 rfl rfl (Nat.le_of_ble_eq_true rfl) (Nat.le_of_ble_eq_true rfl) (Nat.le_of_ble_eq_true rfl) hb_rc29 hs_rs29 (c29_1 c7 c15 c20) (k32_2 c7 c15 c20)
      · refine ev_iconst (pc := 23) (-1) d_P_rank_23 (by decide) ?_
        exact ev_ireturn (pc := 24) d_P_rank_24 rfl rfl (q24_3 c7 c15 c20)
  · refine ev_bipush (pc := 10) (-9) d_P_rank_10 (by decide) ?_
    exact ev_ireturn (pc := 12) d_P_rank_12 rfl rfl (q12_4 c7)

set_option maxRecDepth 100000 in
set_option maxHeartbeats 4000000 in
theorem s_P_rank_70 {l : Launch} {X : ev_X} {bc bs n : Nat} {F : ev_H} {Q : Option Value → Nat → ev_H → Prop} {r0 : Nat} {i1 : Int32} 
    (k71_0 : Ev l X M_P_rank bc bs 71 [(0, .ref r0), (1, .int i1)] [.int 0] n F (ev_mq X Q)) :
    Ev l X M_P_rank bc bs 70 [(0, .ref r0), (1, .int i1)] [] n F (ev_mq X Q) := by
  refine ev_iconst (pc := 70) 0 d_P_rank_70 (by decide) ?_
  exact k71_0

set_option maxRecDepth 100000 in
set_option maxHeartbeats 4000000 in
theorem s_P_rank_71 {l : Launch} {X : ev_X} {bc bs n : Nat} {F : ev_H} {Q : Option Value → Nat → ev_H → Prop} {r0 : Nat} {i1 : Int32} {is0 : Int32} {ir0_draftWords : Int32} {ir0p14_termCount : Int32} {ir0p14_weighedCount : Int32} {Q91 : Option Value → Nat → ev_H → Prop} {bc91 : Nat} {bs91 : Nat} {rc91 : Nat} {rs91 : Nat} (h_r0 : F r0 = some (psO r0 ir0_draftWords)) (h_r0p7 : F (r0 + 7) = some (.inr (3, [.ref ((r0 + 7) + 1), .ref ((r0 + 7) + 2)]))) (h_r0p14 : F (r0 + 14) = some (.inr (6, [.ref ((r0 + 14) + 1), .ref ((r0 + 14) + 10), .int ir0p14_termCount, .int ir0p14_weighedCount]))) (hb_rc91 : rc91 + bc91 ≤ bc) (hs_rs91 : rs91 + bs91 ≤ bs)
    (k113_0 : (is0 = 0) → Ev l X M_P_rank bc bs 113 [(0, .ref r0), (1, .int i1), (2, .int is0)] [] n F (ev_mq X Q))
    (c91_1 : (¬ is0 = 0) → Cal l X M_Ra_weighBag bc91 bs91 [.ref (r0 + 14), .ref (r0 + 11), .ref ((r0 + 7) + 2)] n F Q91)
    (k94_2 : (¬ is0 = 0) → ∀ v2 n2 F2, Q91 v2 n2 F2 → Ev l X M_P_rank rc91 rs91 94 [(0, .ref r0), (1, .int i1), (2, .int is0)] (v2.toList ++ []) n2 F2 (ev_mq X Q)) :
    Ev l X M_P_rank bc bs 71 [(0, .ref r0), (1, .int i1)] [.int is0] n F (ev_mq X Q) := by
  refine ev_istore_n (pc := 71) d_P_rank_71 (Nat.le_of_ble_eq_true rfl) [1, 2, 0] rfl ?_
  refine ev_iload_n (pc := 72) d_P_rank_72 rfl ?_
  refine ev_if_eq (pc := 73) 113 d_P_rank_73 (by decide) (fun c73 => ?_) (fun c73 => ?_)
  · exact (k113_0 c73)
  · refine ev_aload_n (pc := 76) d_P_rank_76 rfl ?_
    refine ev_getfield (pc := 77) 7 d_P_rank_77 fl_P_55 h_r0 rfl ?_
    refine ev_aload_n (pc := 80) d_P_rank_80 rfl ?_
    refine ev_getfield (pc := 81) 6 d_P_rank_81 fl_P_48 h_r0 rfl ?_
    refine ev_aload_n (pc := 84) d_P_rank_84 rfl ?_
    refine ev_getfield (pc := 85) 4 d_P_rank_85 fl_P_34 h_r0 rfl ?_
    refine ev_getfield (pc := 88) 1 d_P_rank_88 fl_P_143 h_r0p7 rfl ?_
    exact ev_invokevirtual (pc := 91) (As := [.ref (r0 + 11), .ref ((r0 + 7) + 2)]) (st := []) (Q2 := Q91) M_Ra_weighBag rC6 d_P_rank_91 lc_P_190 wd_794 wd_795 rfl h_r0p14 rfl rfl (Nat.le_of_ble_eq_true rfl) (Nat.le_of_ble_eq_true rfl) (Nat.le_of_ble_eq_true rfl) hb_rc91 hs_rs91 (c91_1 c73) (k94_2 c73)

set_option maxRecDepth 100000 in
set_option maxHeartbeats 4000000 in
theorem s_P_rank_113 {l : Launch} {X : ev_X} {bc bs n : Nat} {F : ev_H} {Q : Option Value → Nat → ev_H → Prop} {r0 : Nat} {i1 : Int32} {i2 : Int32} {ir0_draftWords : Int32} {ir0p11_height : Int32} {Q117 : Option Value → Nat → ev_H → Prop} {bc117 : Nat} {bs117 : Nat} {rc117 : Nat} {rs117 : Nat} (h_r0 : F r0 = some (psO r0 ir0_draftWords)) (h_r0p11 : F (r0 + 11) = some (.inr (5, [.ref ((r0 + 11) + 1), .ref ((r0 + 11) + 2), .int ir0p11_height]))) (hb_rc117 : rc117 + bc117 ≤ bc) (hs_rs117 : rs117 + bs117 ≤ bs)
    (c117_0 : Cal l X M_Qs_clear bc117 bs117 [.ref (r0 + 11)] n F Q117)
    (k120_1 : ∀ v2 n2 F2, Q117 v2 n2 F2 → Ev l X M_P_rank rc117 rs117 120 [(0, .ref r0), (1, .int i1), (2, .int i2)] (v2.toList ++ []) n2 F2 (ev_mq X Q)) :
    Ev l X M_P_rank bc bs 113 [(0, .ref r0), (1, .int i1), (2, .int i2)] [] n F (ev_mq X Q) := by
  refine ev_aload_n (pc := 113) d_P_rank_113 rfl ?_
  refine ev_getfield (pc := 114) 6 d_P_rank_114 fl_P_48 h_r0 rfl ?_
  exact ev_invokevirtual (pc := 117) (As := []) (st := []) (Q2 := Q117) M_Qs_clear rC5 d_P_rank_117 lc_P_185 wd_649 wd_650 rfl h_r0p11 rfl rfl (Nat.le_of_ble_eq_true rfl) (Nat.le_of_ble_eq_true rfl) (Nat.le_of_ble_eq_true rfl) hb_rc117 hs_rs117 c117_0 k120_1

set_option maxRecDepth 100000 in
set_option maxHeartbeats 4000000 in
theorem s_P_rank_32 {l : Launch} {X : ev_X} {bc bs n : Nat} {F : ev_H} {Q : Option Value → Nat → ev_H → Prop} {r0 : Nat} {i1 : Int32} {ir0_draftWords : Int32} {ir0p14_termCount : Int32} {ir0p14_weighedCount : Int32} {Q36 : Option Value → Nat → ev_H → Prop} {bc36 : Nat} {bs36 : Nat} {rc36 : Nat} {rs36 : Nat} (h_r0 : F r0 = some (psO r0 ir0_draftWords)) (h_r0p14 : F (r0 + 14) = some (.inr (6, [.ref ((r0 + 14) + 1), .ref ((r0 + 14) + 10), .int ir0p14_termCount, .int ir0p14_weighedCount]))) (hb_rc36 : rc36 + bc36 ≤ bc) (hs_rs36 : rs36 + bs36 ≤ bs)
    (c36_0 : Cal l X M_Ra_clear bc36 bs36 [.ref (r0 + 14)] n F Q36)
    (k39_1 : ∀ v2 n2 F2, Q36 v2 n2 F2 → Ev l X M_P_rank rc36 rs36 39 [(0, .ref r0), (1, .int i1)] (v2.toList ++ []) n2 F2 (ev_mq X Q)) :
    Ev l X M_P_rank bc bs 32 [(0, .ref r0), (1, .int i1)] [] n F (ev_mq X Q) := by
  refine ev_aload_n (pc := 32) d_P_rank_32 rfl ?_
  refine ev_getfield (pc := 33) 7 d_P_rank_33 fl_P_55 h_r0 rfl ?_
  exact ev_invokevirtual (pc := 36) (As := []) (st := []) (Q2 := Q36) M_Ra_clear rC6 d_P_rank_36 lc_P_189 wd_790 wd_791 rfl h_r0p14 rfl rfl (Nat.le_of_ble_eq_true rfl) (Nat.le_of_ble_eq_true rfl) (Nat.le_of_ble_eq_true rfl) hb_rc36 hs_rs36 c36_0 k39_1

set_option maxRecDepth 100000 in
set_option maxHeartbeats 4000000 in
theorem s_P_rank_94 {l : Launch} {X : ev_X} {bc bs n : Nat} {F : ev_H} {Q : Option Value → Nat → ev_H → Prop} {r0 : Nat} {i1 : Int32} {i2 : Int32} {ir0_draftWords : Int32} {ir0p14_termCount : Int32} {ir0p14_weighedCount : Int32} {Q110 : Option Value → Nat → ev_H → Prop} {bc110 : Nat} {bs110 : Nat} {rc110 : Nat} {rs110 : Nat} (h_r0 : F r0 = some (psO r0 ir0_draftWords)) (h_r0p7 : F (r0 + 7) = some (.inr (3, [.ref ((r0 + 7) + 1), .ref ((r0 + 7) + 2)]))) (h_r0p14 : F (r0 + 14) = some (.inr (6, [.ref ((r0 + 14) + 1), .ref ((r0 + 14) + 10), .int ir0p14_termCount, .int ir0p14_weighedCount]))) (hb_rc110 : rc110 + bc110 ≤ bc) (hs_rs110 : rs110 + bs110 ≤ bs)
    (c110_0 : Cal l X M_Ra_chooseBest bc110 bs110 [.ref (r0 + 14), .int i1, .ref ((r0 + 7) + 2), .ref (r0 + 25)] n F Q110)
    (k113_1 : ∀ v2 n2 F2, Q110 v2 n2 F2 → Ev l X M_P_rank rc110 rs110 113 [(0, .ref r0), (1, .int i1), (2, .int i2)] (v2.toList ++ []) n2 F2 (ev_mq X Q)) :
    Ev l X M_P_rank bc bs 94 [(0, .ref r0), (1, .int i1), (2, .int i2)] [] n F (ev_mq X Q) := by
  refine ev_aload_n (pc := 94) d_P_rank_94 rfl ?_
  refine ev_getfield (pc := 95) 7 d_P_rank_95 fl_P_55 h_r0 rfl ?_
  refine ev_iload_n (pc := 98) d_P_rank_98 rfl ?_
  refine ev_aload_n (pc := 99) d_P_rank_99 rfl ?_
  refine ev_getfield (pc := 100) 4 d_P_rank_100 fl_P_34 h_r0 rfl ?_
  refine ev_getfield (pc := 103) 1 d_P_rank_103 fl_P_143 h_r0p7 rfl ?_
  refine ev_aload_n (pc := 106) d_P_rank_106 rfl ?_
  refine ev_getfield (pc := 107) 8 d_P_rank_107 fl_P_62 h_r0 rfl ?_
  exact ev_invokevirtual (pc := 110) (As := [.int i1, .ref ((r0 + 7) + 2), .ref (r0 + 25)]) (st := []) (Q2 := Q110) M_Ra_chooseBest rC6 d_P_rank_110 lc_P_194 wd_829 wd_830 rfl h_r0p14 rfl rfl (Nat.le_of_ble_eq_true rfl) (Nat.le_of_ble_eq_true rfl) (Nat.le_of_ble_eq_true rfl) hb_rc110 hs_rs110 c110_0 k113_1

set_option maxRecDepth 100000 in
set_option maxHeartbeats 4000000 in
theorem s_P_rank_120 {l : Launch} {X : ev_X} {bc bs n : Nat} {F : ev_H} {Q : Option Value → Nat → ev_H → Prop} {r0 : Nat} {i1 : Int32} {i2 : Int32} {ir0_draftWords : Int32} {ir0p25_count : Int32} (h_r0 : F r0 = some (psO r0 ir0_draftWords)) (h_r0p25 : F (r0 + 25) = some (.inr (7, [.ref ((r0 + 25) + 1), .ref ((r0 + 25) + 2), .int ir0p25_count])))
    (q136_0 : (i2 = 0) → Q (some (.int (-3))) n F)
    (q136_1 : (¬ i2 = 0) → Q (some (.int ir0p25_count)) n F) :
    Ev l X M_P_rank bc bs 120 [(0, .ref r0), (1, .int i1), (2, .int i2)] [] n F (ev_mq X Q) := by
  refine ev_iload_n (pc := 120) d_P_rank_120 rfl ?_
  refine ev_if_eq (pc := 121) 134 d_P_rank_121 (by decide) (fun c121 => ?_) (fun c121 => ?_)
  · refine ev_bipush (pc := 134) (-3) d_P_rank_134 (by decide) ?_
    exact ev_ireturn (pc := 136) d_P_rank_136 rfl rfl (q136_0 c121)
  · refine ev_aload_n (pc := 124) d_P_rank_124 rfl ?_
    refine ev_getfield (pc := 125) 8 d_P_rank_125 fl_P_62 h_r0 rfl ?_
    refine ev_getfield (pc := 128) 2 d_P_rank_128 fl_P_186 h_r0p25 rfl ?_
    refine ev_goto (pc := 131) 136 d_P_rank_131 (by decide) ?_
    exact ev_ireturn (pc := 136) d_P_rank_136 rfl rfl (q136_1 c121)

set_option maxRecDepth 100000 in
set_option maxHeartbeats 4000000 in
theorem s_P_rank_39 {l : Launch} {X : ev_X} {bc bs n : Nat} {F : ev_H} {Q : Option Value → Nat → ev_H → Prop} {r0 : Nat} {i1 : Int32} {ir0_draftWords : Int32} {ir0p11_height : Int32} {v60 : Int32} (h_r0 : F r0 = some (psO r0 ir0_draftWords)) (h_r0p11 : F (r0 + 11) = some (.inr (5, [.ref ((r0 + 11) + 1), .ref ((r0 + 11) + 2), .int ir0p11_height])))
    (k70_0 : (ir0p11_height ≤ 0) → Ev l X M_P_rank bc bs 70 [(0, .ref r0), (1, .int i1)] [] n F (ev_mq X Q))
    (c60_1 : (¬ ir0p11_height ≤ 0) → Cal l X M_Qs_areTerms 0 0 [.ref (r0 + 11), .int ir0p11_height] n F (ev_pure (.int v60) n F))
    (k70_2 : (¬ ir0p11_height ≤ 0) → (v60 = 0) → Ev l X M_P_rank bc bs 70 [(0, .ref r0), (1, .int i1)] [] n F (ev_mq X Q))
    (k71_3 : (¬ ir0p11_height ≤ 0) → (¬ v60 = 0) → Ev l X M_P_rank bc bs 71 [(0, .ref r0), (1, .int i1)] [.int 1] n F (ev_mq X Q)) :
    Ev l X M_P_rank bc bs 39 [(0, .ref r0), (1, .int i1)] [] n F (ev_mq X Q) := by
  refine ev_aload_n (pc := 39) d_P_rank_39 rfl ?_
  refine ev_getfield (pc := 40) 6 d_P_rank_40 fl_P_48 h_r0 rfl ?_
  refine ev_getfield (pc := 43) 2 d_P_rank_43 fl_P_160 h_r0p11 rfl ?_
  refine ev_if_le (pc := 46) 70 d_P_rank_46 (by decide) (fun c46 => ?_) (fun c46 => ?_)
  · exact (k70_0 c46)
  · refine ev_aload_n (pc := 49) d_P_rank_49 rfl ?_
    refine ev_getfield (pc := 50) 6 d_P_rank_50 fl_P_48 h_r0 rfl ?_
    refine ev_aload_n (pc := 53) d_P_rank_53 rfl ?_
    refine ev_getfield (pc := 54) 6 d_P_rank_54 fl_P_48 h_r0 rfl ?_
    refine ev_getfield (pc := 57) 2 d_P_rank_57 fl_P_160 h_r0p11 rfl ?_
    refine ev_invokevirtual (pc := 60) (As := [.int ir0p11_height]) (st := []) (Q2 := ev_pure (.int v60) n F) (bc1 := 0) (bs1 := 0) M_Qs_areTerms rC5 d_P_rank_60 lc_P_167 wd_723 wd_724 rfl h_r0p11 rfl rfl (Nat.le_of_ble_eq_true rfl) (Nat.le_of_ble_eq_true rfl) (Nat.le_of_ble_eq_true rfl) (Nat.le_refl _) (Nat.le_refl _) (c60_1 c46) ?_
    refine ev_purek ?_
    refine ev_if_eq (pc := 63) 70 d_P_rank_63 (by decide) (fun c63 => ?_) (fun c63 => ?_)
    · exact (k70_2 c46 c63)
    · refine ev_iconst (pc := 66) 1 d_P_rank_66 (by decide) ?_
      refine ev_goto (pc := 67) 71 d_P_rank_67 (by decide) ?_
      exact (k71_3 c46 c63)
set_option maxRecDepth 100000 in
set_option maxHeartbeats 4000000 in
theorem s_P_totalLength_0 {l : Launch} {X : ev_X} {bc bs n : Nat} {F : ev_H} {Q : Option Value → Nat → ev_H → Prop} {r0 : Nat} 
    (k4_0 : Ev l X M_P_totalLength bc bs 4 [(0, .ref r0), (1, .int 0), (2, .int 0)] [] n F (ev_mq X Q)) :
    Ev l X M_P_totalLength bc bs 0 [(0, .ref r0)] [] n F (ev_mq X Q) := by
  refine ev_iconst (pc := 0) 0 d_P_totalLength_0 (by decide) ?_
  refine ev_istore_n (pc := 1) d_P_totalLength_1 (Nat.le_of_ble_eq_true rfl) [1, 0] rfl ?_
  refine ev_iconst (pc := 2) 0 d_P_totalLength_2 (by decide) ?_
  refine ev_istore_n (pc := 3) d_P_totalLength_3 (Nat.le_of_ble_eq_true rfl) [1, 2, 0] rfl ?_
  exact k4_0

set_option maxRecDepth 100000 in
set_option maxHeartbeats 4000000 in
theorem s_P_totalLength_4 {l : Launch} {X : ev_X} {bc bs n : Nat} {F : ev_H} {Q : Option Value → Nat → ev_H → Prop} {r0 : Nat} {i1 : Int32} {i2 : Int32} {r0_elementData : Nat} {ir0_size : Int32} {ir0_modCount : Int32} {v6 : Int32} {v15 : Nat} {iv15_id : Int32} {v15_terms : Nat} {v21 : Int32} (h_r0 : F r0 = some (.inr (12, [.ref r0_elementData, .int ir0_size, .int ir0_modCount])))
    (c6_0 : Cal l X M_AL_size 0 0 [.ref r0] n F (ev_pure (.int v6) n F))
    (q33_1 : (v6 ≤ i2) → Q (some (.int i1)) n F)
    (c15_2 : (¬ v6 ≤ i2) → Cal l X M_AL_get 0 0 [.ref r0, .int i2] n F (ev_pure (.ref v15) n F))
    (hv15_3 : (¬ v6 ≤ i2) → F v15 = some (.inr (8, [.int iv15_id, .ref v15_terms])))
    (c21_4 : (¬ v6 ≤ i2) → Cal l X M_D_length 0 0 [.ref v15] n F (ev_pure (.int v21) n F))
    (k4_5 : (¬ v6 ≤ i2) → Ev l X M_P_totalLength bc bs 4 [(0, .ref r0), (1, .int (i1 + v21)), (2, .int (i2 + 1))] [] n F (ev_mq X Q)) :
    Ev l X M_P_totalLength bc bs 4 [(0, .ref r0), (1, .int i1), (2, .int i2)] [] n F (ev_mq X Q) := by
  refine ev_iload_n (pc := 4) d_P_totalLength_4 rfl ?_
  refine ev_aload_n (pc := 5) d_P_totalLength_5 rfl ?_
  refine ev_invokevirtual (pc := 6) (As := []) (st := [.int i2]) (Q2 := ev_pure (.int v6) n F) (bc1 := 0) (bs1 := 0) M_AL_size rC12 d_P_totalLength_6 lc_P_121 wd_469 wd_470 rfl h_r0 rfl rfl (Nat.le_of_ble_eq_true rfl) (Nat.le_of_ble_eq_true rfl) (Nat.le_of_ble_eq_true rfl) (Nat.le_refl _) (Nat.le_refl _) c6_0 ?_
  refine ev_purek ?_
  refine ev_icmp_ge (pc := 9) 32 d_P_totalLength_9 (by decide) (fun c9 => ?_) (fun c9 => ?_)
  · refine ev_iload_n (pc := 32) d_P_totalLength_32 rfl ?_
    exact ev_ireturn (pc := 33) d_P_totalLength_33 rfl rfl (q33_1 c9)
  · refine ev_iload_n (pc := 12) d_P_totalLength_12 rfl ?_
    refine ev_aload_n (pc := 13) d_P_totalLength_13 rfl ?_
    refine ev_iload_n (pc := 14) d_P_totalLength_14 rfl ?_
    refine ev_invokevirtual (pc := 15) (As := [.int i2]) (st := [.int i1]) (Q2 := ev_pure (.ref v15) n F) (bc1 := 0) (bs1 := 0) M_AL_get rC12 d_P_totalLength_15 lc_P_223 wd_473 wd_474 rfl h_r0 rfl rfl (Nat.le_of_ble_eq_true rfl) (Nat.le_of_ble_eq_true rfl) (Nat.le_of_ble_eq_true rfl) (Nat.le_refl _) (Nat.le_refl _) (c15_2 c9) ?_
    refine ev_purek ?_
    refine ev_checkcast (pc := 18) rC8 d_P_totalLength_18 wd_428 wd_1203 rfl (hv15_3 c9) ?_
    refine ev_invokevirtual (pc := 21) (As := []) (st := [.int i1]) (Q2 := ev_pure (.int v21) n F) (bc1 := 0) (bs1 := 0) M_D_length rC8 d_P_totalLength_21 lc_P_227 wd_801 wd_802 rfl (hv15_3 c9) rfl rfl (Nat.le_of_ble_eq_true rfl) (Nat.le_of_ble_eq_true rfl) (Nat.le_of_ble_eq_true rfl) (Nat.le_refl _) (Nat.le_refl _) (c21_4 c9) ?_
    refine ev_purek ?_
    refine ev_iadd (pc := 24) d_P_totalLength_24 ?_
    refine ev_istore_n (pc := 25) d_P_totalLength_25 (Nat.le_of_ble_eq_true rfl) [1, 0, 2] rfl ?_
    refine ev_iinc (pc := 26) 2 1 d_P_totalLength_26 rfl (by decide) (Nat.le_of_ble_eq_true rfl) [1, 2, 0] rfl ?_
    refine ev_goto (pc := 29) 4 d_P_totalLength_29 (by decide) ?_
    exact (k4_5 c9)
set_option maxRecDepth 100000 in
set_option maxHeartbeats 4000000 in
theorem s_P_result_0 {l : Launch} {X : ev_X} {bc bs n : Nat} {F : ev_H} {Q : Option Value → Nat → ev_H → Prop} {r0 : Nat} {i1 : Int32} {ir0_draftWords : Int32} {ir0p25_count : Int32} {v5 : Int32} {r0p25p1_f : Nat → Int32} (h_r0 : F r0 = some (psO r0 ir0_draftWords)) (h_r0p25 : F (r0 + 25) = some (.inr (7, [.ref ((r0 + 25) + 1), .ref ((r0 + 25) + 2), .int ir0p25_count]))) (h_r0p25p1 : F ((r0 + 25) + 1) = some (.inl (0, 12, .inl r0p25p1_f)))
    (c5_0 : Cal l X M_Re_has 0 0 [.ref (r0 + 25), .int i1] n F (ev_pure (.int v5) n F))
    (q24_1 : (v5 = 0) → Q (some (.int (-1))) n F)
    (in19_2 : (¬ v5 = 0) → vp_in i1 12)
    (q24_3 : (¬ v5 = 0) → Q (some (.int (r0p25p1_f i1.toNatClampNeg))) n F) :
    Ev l X M_P_result bc bs 0 [(0, .ref r0), (1, .int i1)] [] n F (ev_mq X Q) := by
  refine ev_aload_n (pc := 0) d_P_result_0 rfl ?_
  refine ev_getfield (pc := 1) 8 d_P_result_1 fl_P_62 h_r0 rfl ?_
  refine ev_iload_n (pc := 4) d_P_result_4 rfl ?_
  refine ev_invokevirtual (pc := 5) (As := [.int i1]) (st := []) (Q2 := ev_pure (.int v5) n F) (bc1 := 0) (bs1 := 0) M_Re_has rC7 d_P_result_5 lc_P_198 wd_854 wd_855 rfl h_r0p25 rfl rfl (Nat.le_of_ble_eq_true rfl) (Nat.le_of_ble_eq_true rfl) (Nat.le_of_ble_eq_true rfl) (Nat.le_refl _) (Nat.le_refl _) c5_0 ?_
  refine ev_purek ?_
  refine ev_if_eq (pc := 8) 23 d_P_result_8 (by decide) (fun c8 => ?_) (fun c8 => ?_)
  · refine ev_iconst (pc := 23) (-1) d_P_result_23 (by decide) ?_
    exact ev_ireturn (pc := 24) d_P_result_24 rfl rfl (q24_1 c8)
  · refine ev_aload_n (pc := 11) d_P_result_11 rfl ?_
    refine ev_getfield (pc := 12) 8 d_P_result_12 fl_P_62 h_r0 rfl ?_
    refine ev_getfield (pc := 15) 0 d_P_result_15 fl_P_201 h_r0p25 rfl ?_
    refine ev_iload_n (pc := 18) d_P_result_18 rfl ?_
    refine ev_iaload (pc := 19) d_P_result_19 h_r0p25p1 rfl (in19_2 c8) ?_
    refine ev_goto (pc := 20) 24 d_P_result_20 (by decide) ?_
    exact ev_ireturn (pc := 24) d_P_result_24 rfl rfl (q24_3 c8)
set_option maxRecDepth 100000 in
set_option maxHeartbeats 4000000 in
theorem s_P_weight_0 {l : Launch} {X : ev_X} {bc bs n : Nat} {F : ev_H} {Q : Option Value → Nat → ev_H → Prop} {r0 : Nat} {i1 : Int32} {ir0_draftWords : Int32} {ir0p25_count : Int32} {v5 : Int32} {r0p25p2_f : Nat → Int32} (h_r0 : F r0 = some (psO r0 ir0_draftWords)) (h_r0p25 : F (r0 + 25) = some (.inr (7, [.ref ((r0 + 25) + 1), .ref ((r0 + 25) + 2), .int ir0p25_count]))) (h_r0p25p2 : F ((r0 + 25) + 2) = some (.inl (0, 12, .inl r0p25p2_f)))
    (c5_0 : Cal l X M_Re_has 0 0 [.ref (r0 + 25), .int i1] n F (ev_pure (.int v5) n F))
    (q24_1 : (v5 = 0) → Q (some (.int (-1))) n F)
    (in19_2 : (¬ v5 = 0) → vp_in i1 12)
    (q24_3 : (¬ v5 = 0) → Q (some (.int (r0p25p2_f i1.toNatClampNeg))) n F) :
    Ev l X M_P_weight bc bs 0 [(0, .ref r0), (1, .int i1)] [] n F (ev_mq X Q) := by
  refine ev_aload_n (pc := 0) d_P_weight_0 rfl ?_
  refine ev_getfield (pc := 1) 8 d_P_weight_1 fl_P_62 h_r0 rfl ?_
  refine ev_iload_n (pc := 4) d_P_weight_4 rfl ?_
  refine ev_invokevirtual (pc := 5) (As := [.int i1]) (st := []) (Q2 := ev_pure (.int v5) n F) (bc1 := 0) (bs1 := 0) M_Re_has rC7 d_P_weight_5 lc_P_198 wd_854 wd_855 rfl h_r0p25 rfl rfl (Nat.le_of_ble_eq_true rfl) (Nat.le_of_ble_eq_true rfl) (Nat.le_of_ble_eq_true rfl) (Nat.le_refl _) (Nat.le_refl _) c5_0 ?_
  refine ev_purek ?_
  refine ev_if_eq (pc := 8) 23 d_P_weight_8 (by decide) (fun c8 => ?_) (fun c8 => ?_)
  · refine ev_iconst (pc := 23) (-1) d_P_weight_23 (by decide) ?_
    exact ev_ireturn (pc := 24) d_P_weight_24 rfl rfl (q24_1 c8)
  · refine ev_aload_n (pc := 11) d_P_weight_11 rfl ?_
    refine ev_getfield (pc := 12) 8 d_P_weight_12 fl_P_62 h_r0 rfl ?_
    refine ev_getfield (pc := 15) 1 d_P_weight_15 fl_P_204 h_r0p25 rfl ?_
    refine ev_iload_n (pc := 18) d_P_weight_18 rfl ?_
    refine ev_iaload (pc := 19) d_P_weight_19 h_r0p25p2 rfl (in19_2 c8) ?_
    refine ev_goto (pc := 20) 24 d_P_weight_20 (by decide) ?_
    exact ev_ireturn (pc := 24) d_P_weight_24 rfl rfl (q24_3 c8)
set_option maxRecDepth 100000 in
set_option maxHeartbeats 4000000 in
theorem s_P_weighed_0 {l : Launch} {X : ev_X} {bc bs n : Nat} {F : ev_H} {Q : Option Value → Nat → ev_H → Prop} {r0 : Nat} {ir0_draftWords : Int32} {ir0p14_termCount : Int32} {ir0p14_weighedCount : Int32} (h_r0 : F r0 = some (psO r0 ir0_draftWords)) (h_r0p14 : F (r0 + 14) = some (.inr (6, [.ref ((r0 + 14) + 1), .ref ((r0 + 14) + 10), .int ir0p14_termCount, .int ir0p14_weighedCount])))
    (q7_0 : Q (some (.int ir0p14_weighedCount)) n F) :
    Ev l X M_P_weighed bc bs 0 [(0, .ref r0)] [] n F (ev_mq X Q) := by
  refine ev_aload_n (pc := 0) d_P_weighed_0 rfl ?_
  refine ev_getfield (pc := 1) 7 d_P_weighed_1 fl_P_55 h_r0 rfl ?_
  refine ev_getfield (pc := 4) 3 d_P_weighed_4 fl_P_207 h_r0p14 rfl ?_
  exact ev_ireturn (pc := 7) d_P_weighed_7 rfl rfl q7_0
set_option maxRecDepth 100000 in
set_option maxHeartbeats 4000000 in
theorem s_P_size_0 {l : Launch} {X : ev_X} {bc bs n : Nat} {F : ev_H} {Q : Option Value → Nat → ev_H → Prop} {r0 : Nat} {i1 : Int32} {ir0_draftWords : Int32} {r0p7p2_elementData : Nat} {ir0p7p2_size : Int32} {ir0p7p2_modCount : Int32} {v63 : Int32} {r0p7p1_elementData : Nat} {ir0p7p1_size : Int32} {ir0p7p1_modCount : Int32} {v74 : Int32} {v82 : Int32} {ir0p5_ids : Int32} {v90 : Int32} {ir0p11_height : Int32} {v114 : Int32} {ir0p10_blocksWritten : Int32} {ir0p10_blocksToStop : Int32} {ir0p10_stopped : Int32} {v146 : Int32} (h_r0 : F r0 = some (psO r0 ir0_draftWords)) (h_r0p7 : F (r0 + 7) = some (.inr (3, [.ref ((r0 + 7) + 1), .ref ((r0 + 7) + 2)]))) (h_r0p7p2 : F ((r0 + 7) + 2) = some (.inr (12, [.ref r0p7p2_elementData, .int ir0p7p2_size, .int ir0p7p2_modCount]))) (h_r0p7p1 : F ((r0 + 7) + 1) = some (.inr (12, [.ref r0p7p1_elementData, .int ir0p7p1_size, .int ir0p7p1_modCount]))) (h_r0p5 : F (r0 + 5) = some (.inr (2, [.ref ((r0 + 5) + 1), .int ir0p5_ids]))) (h_r0p11 : F (r0 + 11) = some (.inr (5, [.ref ((r0 + 11) + 1), .ref ((r0 + 11) + 2), .int ir0p11_height]))) (h_r0p10 : F (r0 + 10) = some (.inr (4, [.int ir0p10_blocksWritten, .int ir0p10_blocksToStop, .int ir0p10_stopped])))
    (c63_0 : (i1 = 0) → Cal l X M_AL_size 0 0 [.ref ((r0 + 7) + 2)] n F (ev_pure (.int v63) n F))
    (q66_1 : (i1 = 0) → Q (some (.int v63)) n F)
    (c74_2 : (¬ i1 = 0) → (i1 = 1) → Cal l X M_AL_size 0 0 [.ref ((r0 + 7) + 1)] n F (ev_pure (.int v74) n F))
    (q77_3 : (¬ i1 = 0) → (i1 = 1) → Q (some (.int v74)) n F)
    (c82_4 : (¬ i1 = 0) → (¬ i1 = 1) → (i1 = 2) → Cal l X M_Sh_documentCount 0 0 [.ref (r0 + 7)] n F (ev_pure (.int v82) n F))
    (q85_5 : (¬ i1 = 0) → (¬ i1 = 1) → (i1 = 2) → Q (some (.int v82)) n F)
    (c90_6 : (¬ i1 = 0) → (¬ i1 = 1) → (¬ i1 = 2) → (i1 = 3) → Cal l X M_Pe_idCount 0 0 [.ref (r0 + 5)] n F (ev_pure (.int v90) n F))
    (q93_7 : (¬ i1 = 0) → (¬ i1 = 1) → (¬ i1 = 2) → (i1 = 3) → Q (some (.int v90)) n F)
    (q98_8 : (¬ i1 = 0) → (¬ i1 = 1) → (¬ i1 = 2) → (¬ i1 = 3) → (i1 = 4) → Q (some (.int ir0_draftWords)) n F)
    (q106_9 : (¬ i1 = 0) → (¬ i1 = 1) → (¬ i1 = 2) → (¬ i1 = 3) → (¬ i1 = 4) → (i1 = 5) → Q (some (.int ir0p11_height)) n F)
    (c114_10 : (¬ i1 = 0) → (¬ i1 = 1) → (¬ i1 = 2) → (¬ i1 = 3) → (¬ i1 = 4) → (¬ i1 = 5) → (i1 = 6) → Cal l X M_P_totalLength 0 0 [.ref ((r0 + 7) + 2)] n F (ev_pure (.int v114) n F))
    (q117_11 : (¬ i1 = 0) → (¬ i1 = 1) → (¬ i1 = 2) → (¬ i1 = 3) → (¬ i1 = 4) → (¬ i1 = 5) → (i1 = 6) → Q (some (.int v114)) n F)
    (q125_12 : (¬ i1 = 0) → (¬ i1 = 1) → (¬ i1 = 2) → (¬ i1 = 3) → (¬ i1 = 4) → (¬ i1 = 5) → (¬ i1 = 6) → (i1 = 7) → Q (some (.int ir0p10_blocksWritten)) n F)
    (q141_13 : (¬ i1 = 0) → (¬ i1 = 1) → (¬ i1 = 2) → (¬ i1 = 3) → (¬ i1 = 4) → (¬ i1 = 5) → (¬ i1 = 6) → (¬ i1 = 7) → (i1 = 8) → (ir0p10_stopped = 0) → Q (some (.int 0)) n F)
    (q141_14 : (¬ i1 = 0) → (¬ i1 = 1) → (¬ i1 = 2) → (¬ i1 = 3) → (¬ i1 = 4) → (¬ i1 = 5) → (¬ i1 = 6) → (¬ i1 = 7) → (i1 = 8) → (¬ ir0p10_stopped = 0) → Q (some (.int 1)) n F)
    (c146_15 : (¬ i1 = 0) → (¬ i1 = 1) → (¬ i1 = 2) → (¬ i1 = 3) → (¬ i1 = 4) → (¬ i1 = 5) → (¬ i1 = 6) → (¬ i1 = 7) → (¬ i1 = 8) → (i1 = 9) → Cal l X M_Sh_entryCount 0 0 [.ref (r0 + 7)] n F (ev_pure (.int v146) n F))
    (q149_16 : (¬ i1 = 0) → (¬ i1 = 1) → (¬ i1 = 2) → (¬ i1 = 3) → (¬ i1 = 4) → (¬ i1 = 5) → (¬ i1 = 6) → (¬ i1 = 7) → (¬ i1 = 8) → (i1 = 9) → Q (some (.int v146)) n F)
    (sw1_17 : (¬ i1 = 0) → (¬ i1 = 1) → (¬ i1 = 2) → (¬ i1 = 3) → (¬ i1 = 4) → (¬ i1 = 5) → (¬ i1 = 6) → (¬ i1 = 7) → (¬ i1 = 8) → (¬ i1 = 9) → i1.toInt < 0 ∨ 9 < i1.toInt)
    (q151_18 : (¬ i1 = 0) → (¬ i1 = 1) → (¬ i1 = 2) → (¬ i1 = 3) → (¬ i1 = 4) → (¬ i1 = 5) → (¬ i1 = 6) → (¬ i1 = 7) → (¬ i1 = 8) → (¬ i1 = 9) → Q (some (.int (-1))) n F) :
    Ev l X M_P_size bc bs 0 [(0, .ref r0), (1, .int i1)] [] n F (ev_mq X Q) := by
  refine ev_iload_n (pc := 0) d_P_size_0 rfl ?_
  refine ev_swk (pc := 1) 0 0 56 d_P_size_1 (by decide) (by decide) rfl (by decide) (fun c1_0 => ?_) (fun c1_0 => ?_)
  · refine ev_aload_n (pc := 56) d_P_size_56 rfl ?_
    refine ev_getfield (pc := 57) 4 d_P_size_57 fl_P_34 h_r0 rfl ?_
    refine ev_getfield (pc := 60) 1 d_P_size_60 fl_P_143 h_r0p7 rfl ?_
    refine ev_invokevirtual (pc := 63) (As := []) (st := []) (Q2 := ev_pure (.int v63) n F) (bc1 := 0) (bs1 := 0) M_AL_size rC12 d_P_size_63 lc_P_121 wd_469 wd_470 rfl h_r0p7p2 rfl rfl (Nat.le_of_ble_eq_true rfl) (Nat.le_of_ble_eq_true rfl) (Nat.le_of_ble_eq_true rfl) (Nat.le_refl _) (Nat.le_refl _) (c63_0 c1_0) ?_
    refine ev_purek ?_
    exact ev_ireturn (pc := 66) d_P_size_66 rfl rfl (q66_1 c1_0)
  refine ev_swk (pc := 1) 1 1 67 d_P_size_1 (by decide) (by decide) rfl (by decide) (fun c1_1 => ?_) (fun c1_1 => ?_)
  · refine ev_aload_n (pc := 67) d_P_size_67 rfl ?_
    refine ev_getfield (pc := 68) 4 d_P_size_68 fl_P_34 h_r0 rfl ?_
    refine ev_getfield (pc := 71) 0 d_P_size_71 fl_P_118 h_r0p7 rfl ?_
    refine ev_invokevirtual (pc := 74) (As := []) (st := []) (Q2 := ev_pure (.int v74) n F) (bc1 := 0) (bs1 := 0) M_AL_size rC12 d_P_size_74 lc_P_121 wd_469 wd_470 rfl h_r0p7p1 rfl rfl (Nat.le_of_ble_eq_true rfl) (Nat.le_of_ble_eq_true rfl) (Nat.le_of_ble_eq_true rfl) (Nat.le_refl _) (Nat.le_refl _) (c74_2 c1_0 c1_1) ?_
    refine ev_purek ?_
    exact ev_ireturn (pc := 77) d_P_size_77 rfl rfl (q77_3 c1_0 c1_1)
  refine ev_swk (pc := 1) 2 2 78 d_P_size_1 (by decide) (by decide) rfl (by decide) (fun c1_2 => ?_) (fun c1_2 => ?_)
  · refine ev_aload_n (pc := 78) d_P_size_78 rfl ?_
    refine ev_getfield (pc := 79) 4 d_P_size_79 fl_P_34 h_r0 rfl ?_
    refine ev_invokevirtual (pc := 82) (As := []) (st := []) (Q2 := ev_pure (.int v82) n F) (bc1 := 0) (bs1 := 0) M_Sh_documentCount rC3 d_P_size_82 lc_P_210 wd_870 wd_871 rfl h_r0p7 rfl rfl (Nat.le_of_ble_eq_true rfl) (Nat.le_of_ble_eq_true rfl) (Nat.le_of_ble_eq_true rfl) (Nat.le_refl _) (Nat.le_refl _) (c82_4 c1_0 c1_1 c1_2) ?_
    refine ev_purek ?_
    exact ev_ireturn (pc := 85) d_P_size_85 rfl rfl (q85_5 c1_0 c1_1 c1_2)
  refine ev_swk (pc := 1) 3 3 86 d_P_size_1 (by decide) (by decide) rfl (by decide) (fun c1_3 => ?_) (fun c1_3 => ?_)
  · refine ev_aload_n (pc := 86) d_P_size_86 rfl ?_
    refine ev_getfield (pc := 87) 3 d_P_size_87 fl_P_27 h_r0 rfl ?_
    refine ev_invokevirtual (pc := 90) (As := []) (st := []) (Q2 := ev_pure (.int v90) n F) (bc1 := 0) (bs1 := 0) M_Pe_idCount rC2 d_P_size_90 lc_P_100 wd_547 wd_548 rfl h_r0p5 rfl rfl (Nat.le_of_ble_eq_true rfl) (Nat.le_of_ble_eq_true rfl) (Nat.le_of_ble_eq_true rfl) (Nat.le_refl _) (Nat.le_refl _) (c90_6 c1_0 c1_1 c1_2 c1_3) ?_
    refine ev_purek ?_
    exact ev_ireturn (pc := 93) d_P_size_93 rfl rfl (q93_7 c1_0 c1_1 c1_2 c1_3)
  refine ev_swk (pc := 1) 4 4 94 d_P_size_1 (by decide) (by decide) rfl (by decide) (fun c1_4 => ?_) (fun c1_4 => ?_)
  · refine ev_aload_n (pc := 94) d_P_size_94 rfl ?_
    refine ev_getfield (pc := 95) 2 d_P_size_95 fl_P_20 h_r0 rfl ?_
    exact ev_ireturn (pc := 98) d_P_size_98 rfl rfl (q98_8 c1_0 c1_1 c1_2 c1_3 c1_4)
  refine ev_swk (pc := 1) 5 5 99 d_P_size_1 (by decide) (by decide) rfl (by decide) (fun c1_5 => ?_) (fun c1_5 => ?_)
  · refine ev_aload_n (pc := 99) d_P_size_99 rfl ?_
    refine ev_getfield (pc := 100) 6 d_P_size_100 fl_P_48 h_r0 rfl ?_
    refine ev_getfield (pc := 103) 2 d_P_size_103 fl_P_160 h_r0p11 rfl ?_
    exact ev_ireturn (pc := 106) d_P_size_106 rfl rfl (q106_9 c1_0 c1_1 c1_2 c1_3 c1_4 c1_5)
  refine ev_swk (pc := 1) 6 6 107 d_P_size_1 (by decide) (by decide) rfl (by decide) (fun c1_6 => ?_) (fun c1_6 => ?_)
  · refine ev_aload_n (pc := 107) d_P_size_107 rfl ?_
    refine ev_getfield (pc := 108) 4 d_P_size_108 fl_P_34 h_r0 rfl ?_
    refine ev_getfield (pc := 111) 1 d_P_size_111 fl_P_143 h_r0p7 rfl ?_
    refine ev_invokestatic (pc := 114) (As := [.ref ((r0 + 7) + 2)]) (st := []) (Q2 := ev_pure (.int v114) n F) (bc1 := 0) (bs1 := 0) M_P_totalLength d_P_size_114 lc_P_213 wd_798 rfl rfl (Nat.le_of_ble_eq_true rfl) (Nat.le_of_ble_eq_true rfl) (Nat.le_of_ble_eq_true rfl) (Nat.le_refl _) (Nat.le_refl _) (c114_10 c1_0 c1_1 c1_2 c1_3 c1_4 c1_5 c1_6) ?_
    refine ev_purek ?_
    exact ev_ireturn (pc := 117) d_P_size_117 rfl rfl (q117_11 c1_0 c1_1 c1_2 c1_3 c1_4 c1_5 c1_6)
  refine ev_swk (pc := 1) 7 7 118 d_P_size_1 (by decide) (by decide) rfl (by decide) (fun c1_7 => ?_) (fun c1_7 => ?_)
  · refine ev_aload_n (pc := 118) d_P_size_118 rfl ?_
    refine ev_getfield (pc := 119) 5 d_P_size_119 fl_P_41 h_r0 rfl ?_
    refine ev_getfield (pc := 122) 0 d_P_size_122 fl_P_217 h_r0p10 rfl ?_
    exact ev_ireturn (pc := 125) d_P_size_125 rfl rfl (q125_12 c1_0 c1_1 c1_2 c1_3 c1_4 c1_5 c1_6 c1_7)
  refine ev_swk (pc := 1) 8 8 126 d_P_size_1 (by decide) (by decide) rfl (by decide) (fun c1_8 => ?_) (fun c1_8 => ?_)
  · refine ev_aload_n (pc := 126) d_P_size_126 rfl ?_
    refine ev_getfield (pc := 127) 5 d_P_size_127 fl_P_41 h_r0 rfl ?_
    refine ev_getfield (pc := 130) 2 d_P_size_130 fl_P_74 h_r0p10 rfl ?_
    refine ev_if_eq (pc := 133) 140 d_P_size_133 (by decide) (fun c133 => ?_) (fun c133 => ?_)
    · refine ev_iconst (pc := 140) 0 d_P_size_140 (by decide) ?_
      exact ev_ireturn (pc := 141) d_P_size_141 rfl rfl (q141_13 c1_0 c1_1 c1_2 c1_3 c1_4 c1_5 c1_6 c1_7 c1_8 c133)
    · refine ev_iconst (pc := 136) 1 d_P_size_136 (by decide) ?_
      refine ev_goto (pc := 137) 141 d_P_size_137 (by decide) ?_
      exact ev_ireturn (pc := 141) d_P_size_141 rfl rfl (q141_14 c1_0 c1_1 c1_2 c1_3 c1_4 c1_5 c1_6 c1_7 c1_8 c133)
  refine ev_swk (pc := 1) 9 9 142 d_P_size_1 (by decide) (by decide) rfl (by decide) (fun c1_9 => ?_) (fun c1_9 => ?_)
  · refine ev_aload_n (pc := 142) d_P_size_142 rfl ?_
    refine ev_getfield (pc := 143) 4 d_P_size_143 fl_P_34 h_r0 rfl ?_
    refine ev_invokevirtual (pc := 146) (As := []) (st := []) (Q2 := ev_pure (.int v146) n F) (bc1 := 0) (bs1 := 0) M_Sh_entryCount rC3 d_P_size_146 lc_P_220 wd_875 wd_876 rfl h_r0p7 rfl rfl (Nat.le_of_ble_eq_true rfl) (Nat.le_of_ble_eq_true rfl) (Nat.le_of_ble_eq_true rfl) (Nat.le_refl _) (Nat.le_refl _) (c146_15 c1_0 c1_1 c1_2 c1_3 c1_4 c1_5 c1_6 c1_7 c1_8 c1_9) ?_
    refine ev_purek ?_
    exact ev_ireturn (pc := 149) d_P_size_149 rfl rfl (q149_16 c1_0 c1_1 c1_2 c1_3 c1_4 c1_5 c1_6 c1_7 c1_8 c1_9)
  refine ev_tableOut (pc := 1) 150 d_P_size_1 (sw1_17 c1_0 c1_1 c1_2 c1_3 c1_4 c1_5 c1_6 c1_7 c1_8 c1_9) (by decide) ?_
  refine ev_iconst (pc := 150) (-1) d_P_size_150 (by decide) ?_
  exact ev_ireturn (pc := 151) d_P_size_151 rfl rfl (q151_18 c1_0 c1_1 c1_2 c1_3 c1_4 c1_5 c1_6 c1_7 c1_8 c1_9)
