set_option maxRecDepth 100000 in
set_option maxHeartbeats 4000000 in
theorem s_Str_indexOf_0 {l : Launch} {X : ev_X} {bc bs n : Nat} {F : ev_H} {Q : Option Value → Nat → ev_H → Prop} {r0 : Nat} {i1 : Int32} {r0_i : Nat} {v3 : Int32} (h_r0 : ev_isS X r0 r0_i)
    (c3_0 : Cal l X M_Str_indexOf2 0 0 [.ref r0, .int i1, .int 0] n F (ev_pure (.int v3) n F))
    (q6_1 : Q (some (.int v3)) n F) :
    Ev l X M_Str_indexOf bc bs 0 [(0, .ref r0), (1, .int i1)] [] n F (ev_mq X Q) := by
  refine ev_aload_n (pc := 0) d_Str_indexOf_0 rfl ?_
  refine ev_iload_n (pc := 1) d_Str_indexOf_1 rfl ?_
  refine ev_iconst (pc := 2) 0 d_Str_indexOf_2 (by decide) ?_
  refine ev_invokevirtualS (pc := 3) (As := [.int i1, .int 0]) (st := []) (Q2 := ev_pure (.int v3) n F) (bc1 := 0) (bs1 := 0) M_Str_indexOf2 d_Str_indexOf_3 lc_Str_633 wd_251 wd_252 h_r0 rfl rfl (Nat.le_of_ble_eq_true rfl) (Nat.le_of_ble_eq_true rfl) (Nat.le_of_ble_eq_true rfl) (Nat.le_refl _) (Nat.le_refl _) c3_0 ?_
  refine ev_purek ?_
  exact ev_ireturn (pc := 6) d_Str_indexOf_6 rfl rfl q6_1
set_option maxRecDepth 100000 in
set_option maxHeartbeats 4000000 in
theorem s_Str_indexOf2_0 {l : Launch} {X : ev_X} {bc bs n : Nat} {F : ev_H} {Q : Option Value → Nat → ev_H → Prop} {r0 : Nat} {i1 : Int32} {i2 : Int32} {r0_i : Nat} {v1 : Int32} {v30 : Int32} {v33 : Int32} {v14 : Int32} {v17 : Int32} (h_r0 : ev_isS X r0 r0_i)
    (c1_0 : Cal l X M_Str_isLatin1 0 0 [.ref r0] n F (ev_pure (.int v1) n F))
    (c30_1 : (v1 = 0) → Cal l X M_Str_length 0 0 [.ref r0] n F (ev_pure (.int v30) n F))
    (c33_2 : (v1 = 0) → Cal l X M_Utf_indexOf 0 0 [.ref (X.2.2.2.1 (40 + r0_i)), .int i1, .int i2, .int v30] n F (ev_pure (.int v33) n F))
    (q36_3 : (v1 = 0) → Q (some (.int v33)) n F)
    (c14_4 : (¬ v1 = 0) → Cal l X M_Str_length 0 0 [.ref r0] n F (ev_pure (.int v14) n F))
    (c17_5 : (¬ v1 = 0) → Cal l X M_Lat_indexOf 0 0 [.ref (X.2.2.2.1 (40 + r0_i)), .int i1, .int i2, .int v14] n F (ev_pure (.int v17) n F))
    (q36_6 : (¬ v1 = 0) → Q (some (.int v17)) n F) :
    Ev l X M_Str_indexOf2 bc bs 0 [(0, .ref r0), (1, .int i1), (2, .int i2)] [] n F (ev_mq X Q) := by
  refine ev_aload_n (pc := 0) d_Str_indexOf2_0 rfl ?_
  refine ev_invokevirtualS (pc := 1) (As := []) (st := []) (Q2 := ev_pure (.int v1) n F) (bc1 := 0) (bs1 := 0) M_Str_isLatin1 d_Str_indexOf2_1 lc_Str_492 wd_255 wd_256 h_r0 rfl rfl (Nat.le_of_ble_eq_true rfl) (Nat.le_of_ble_eq_true rfl) (Nat.le_of_ble_eq_true rfl) (Nat.le_refl _) (Nat.le_refl _) c1_0 ?_
  refine ev_purek ?_
  refine ev_if_eq (pc := 4) 23 d_Str_indexOf2_4 (by decide) (fun c4 => ?_) (fun c4 => ?_)
  · refine ev_aload_n (pc := 23) d_Str_indexOf2_23 rfl ?_
    refine ev_getValue (pc := 24) d_Str_indexOf2_24 h_r0 wd_1223 ?_
    refine ev_iload_n (pc := 27) d_Str_indexOf2_27 rfl ?_
    refine ev_iload_n (pc := 28) d_Str_indexOf2_28 rfl ?_
    refine ev_aload_n (pc := 29) d_Str_indexOf2_29 rfl ?_
    refine ev_invokevirtualS (pc := 30) (As := []) (st := [.int i2, .int i1, .ref (X.2.2.2.1 (40 + r0_i))]) (Q2 := ev_pure (.int v30) n F) (bc1 := 0) (bs1 := 0) M_Str_length d_Str_indexOf2_30 lc_Str_505 wd_261 wd_262 h_r0 rfl rfl (Nat.le_of_ble_eq_true rfl) (Nat.le_of_ble_eq_true rfl) (Nat.le_of_ble_eq_true rfl) (Nat.le_refl _) (Nat.le_refl _) (c30_1 c4) ?_
    refine ev_purek ?_
    refine ev_invokestatic (pc := 33) (As := [.ref (X.2.2.2.1 (40 + r0_i)), .int i1, .int i2, .int v30]) (st := []) (Q2 := ev_pure (.int v33) n F) (bc1 := 0) (bs1 := 0) M_Utf_indexOf d_Str_indexOf2_33 lc_Str_640 wd_284 rfl rfl (Nat.le_of_ble_eq_true rfl) (Nat.le_of_ble_eq_true rfl) (Nat.le_of_ble_eq_true rfl) (Nat.le_refl _) (Nat.le_refl _) (c33_2 c4) ?_
    refine ev_purek ?_
    exact ev_ireturn (pc := 36) d_Str_indexOf2_36 rfl rfl (q36_3 c4)
  · refine ev_aload_n (pc := 7) d_Str_indexOf2_7 rfl ?_
    refine ev_getValue (pc := 8) d_Str_indexOf2_8 h_r0 wd_1223 ?_
    refine ev_iload_n (pc := 11) d_Str_indexOf2_11 rfl ?_
    refine ev_iload_n (pc := 12) d_Str_indexOf2_12 rfl ?_
    refine ev_aload_n (pc := 13) d_Str_indexOf2_13 rfl ?_
    refine ev_invokevirtualS (pc := 14) (As := []) (st := [.int i2, .int i1, .ref (X.2.2.2.1 (40 + r0_i))]) (Q2 := ev_pure (.int v14) n F) (bc1 := 0) (bs1 := 0) M_Str_length d_Str_indexOf2_14 lc_Str_505 wd_261 wd_262 h_r0 rfl rfl (Nat.le_of_ble_eq_true rfl) (Nat.le_of_ble_eq_true rfl) (Nat.le_of_ble_eq_true rfl) (Nat.le_refl _) (Nat.le_refl _) (c14_4 c4) ?_
    refine ev_purek ?_
    refine ev_invokestatic (pc := 17) (As := [.ref (X.2.2.2.1 (40 + r0_i)), .int i1, .int i2, .int v14]) (st := []) (Q2 := ev_pure (.int v17) n F) (bc1 := 0) (bs1 := 0) M_Lat_indexOf d_Str_indexOf2_17 lc_Str_637 wd_269 rfl rfl (Nat.le_of_ble_eq_true rfl) (Nat.le_of_ble_eq_true rfl) (Nat.le_of_ble_eq_true rfl) (Nat.le_refl _) (Nat.le_refl _) (c17_5 c4) ?_
    refine ev_purek ?_
    refine ev_goto (pc := 20) 36 d_Str_indexOf2_20 (by decide) ?_
    exact ev_ireturn (pc := 36) d_Str_indexOf2_36 rfl rfl (q36_6 c4)
set_option maxRecDepth 100000 in
set_option maxHeartbeats 4000000 in
theorem s_Str_isLatin1_0 {l : Launch} {X : ev_X} {bc bs n : Nat} {F : ev_H} {Q : Option Value → Nat → ev_H → Prop} {r0 : Nat} {r0_i : Nat} (h_r0 : ev_isS X r0 r0_i)
    (q18_0 : Q (some (.int 1)) n F) :
    Ev l X M_Str_isLatin1 bc bs 0 [(0, .ref r0)] [] n F (ev_mq X Q) := by
  refine ev_getstatic (pc := 0) d_Str_isLatin1_0 (fun _ h => h.2.1.1) (Or.inl wd_258) ?_
  refine ev_if_eq (pc := 3) 17 d_Str_isLatin1_3 (by decide) (fun c3 => absurd c3 (by decide)) (fun _ => ?_)
  refine ev_aload_n (pc := 6) d_Str_isLatin1_6 rfl ?_
  refine ev_getCoder (pc := 7) d_Str_isLatin1_7 h_r0 wd_1222 ?_
  refine ev_if_ne (pc := 10) 17 d_Str_isLatin1_10 (by decide) (fun c10 => absurd c10 (by decide)) (fun _ => ?_)
  refine ev_iconst (pc := 13) 1 d_Str_isLatin1_13 (by decide) ?_
  refine ev_goto (pc := 14) 18 d_Str_isLatin1_14 (by decide) ?_
  exact ev_ireturn (pc := 18) d_Str_isLatin1_18 rfl rfl q18_0
set_option maxRecDepth 100000 in
set_option maxHeartbeats 4000000 in
theorem s_Str_length_0 {l : Launch} {X : ev_X} {bc bs n : Nat} {F : ev_H} {Q : Option Value → Nat → ev_H → Prop} {r0 : Nat} {r0_i : Nat} {v6 : Int32} (h_r0 : ev_isS X r0 r0_i)
    (c6_0 : Cal l X M_Str_coder 0 0 [.ref r0] n F (ev_pure (.int v6) n F))
    (q10_1 : Q (some (.int ((nI (ev_sln.getD r0_i 0)) >>> (v6 &&& 31)))) n F) :
    Ev l X M_Str_length bc bs 0 [(0, .ref r0)] [] n F (ev_mq X Q) := by
  refine ev_aload_n (pc := 0) d_Str_length_0 rfl ?_
  refine ev_getValue (pc := 1) d_Str_length_1 h_r0 wd_1223 ?_
  refine ev_talen (pc := 4) d_Str_length_4 (evT_str h_r0.1) ?_
  refine ev_aload_n (pc := 5) d_Str_length_5 rfl ?_
  refine ev_invokevirtualS (pc := 6) (As := []) (st := [.int (nI (ev_sln.getD r0_i 0))]) (Q2 := ev_pure (.int v6) n F) (bc1 := 0) (bs1 := 0) M_Str_coder d_Str_length_6 lc_Str_335 wd_265 wd_266 h_r0 rfl rfl (Nat.le_of_ble_eq_true rfl) (Nat.le_of_ble_eq_true rfl) (Nat.le_of_ble_eq_true rfl) (Nat.le_refl _) (Nat.le_refl _) c6_0 ?_
  refine ev_purek ?_
  refine ev_ishr (pc := 9) d_Str_length_9 ?_
  exact ev_ireturn (pc := 10) d_Str_length_10 rfl rfl q10_1
set_option maxRecDepth 100000 in
set_option maxHeartbeats 4000000 in
theorem s_Str_coder_0 {l : Launch} {X : ev_X} {bc bs n : Nat} {F : ev_H} {Q : Option Value → Nat → ev_H → Prop} {r0 : Nat} {r0_i : Nat} (h_r0 : ev_isS X r0 r0_i)
    (q14_0 : Q (some (.int 0)) n F) :
    Ev l X M_Str_coder bc bs 0 [(0, .ref r0)] [] n F (ev_mq X Q) := by
  refine ev_getstatic (pc := 0) d_Str_coder_0 (fun _ h => h.2.1.1) (Or.inl wd_258) ?_
  refine ev_if_eq (pc := 3) 13 d_Str_coder_3 (by decide) (fun c3 => absurd c3 (by decide)) (fun _ => ?_)
  refine ev_aload_n (pc := 6) d_Str_coder_6 rfl ?_
  refine ev_getCoder (pc := 7) d_Str_coder_7 h_r0 wd_1222 ?_
  refine ev_goto (pc := 10) 14 d_Str_coder_10 (by decide) ?_
  exact ev_ireturn (pc := 14) d_Str_coder_14 rfl rfl q14_0
set_option maxRecDepth 100000 in
set_option maxHeartbeats 4000000 in
theorem s_Lat_indexOf_0 {l : Launch} {X : ev_X} {bc bs n : Nat} {F : ev_H} {Q : Option Value → Nat → ev_H → Prop} {r0 : Nat} {i1 : Int32} {i2 : Int32} {i3 : Int32} {v1 : Int32} {r0_n : Nat} {r0_f : Nat → Int32} {v33 : Int32} (h_r0 : ev_T X .byte r0 r0_n (fun j => .int (r0_f j)))
    (c1_0 : Cal l X M_Lat_canEncode 0 0 [.int i1] n F (ev_pure (.int v1) n F))
    (c33_1 : (¬ v1 = 0) → ((if i2 < 0 then 0 else i2) < (if (nI r0_n) < i3 then nI r0_n else i3)) → Cal l X M_Lat_indexOfChar 0 0 [.ref r0, .int i1, .int (if i2 < 0 then 0 else i2), .int (if (nI r0_n) < i3 then nI r0_n else i3)] n F (ev_pure (.int v33) n F))
    (q36_2 : (¬ v1 = 0) → ((if i2 < 0 then 0 else i2) < (if (nI r0_n) < i3 then nI r0_n else i3)) → Q (some (.int v33)) n F)
    (q28_3 : (¬ v1 = 0) → (¬ (if i2 < 0 then 0 else i2) < (if (nI r0_n) < i3 then nI r0_n else i3)) → Q (some (.int (-1))) n F)
    (q8_4 : (v1 = 0) → Q (some (.int (-1))) n F) :
    Ev l X M_Lat_indexOf bc bs 0 [(0, .ref r0), (1, .int i1), (2, .int i2), (3, .int i3)] [] n F (ev_mq X Q) := by
  refine ev_iload_n (pc := 0) d_Lat_indexOf_0 rfl ?_
  refine ev_invokestatic (pc := 1) (As := [.int i1]) (st := []) (Q2 := ev_pure (.int v1) n F) (bc1 := 0) (bs1 := 0) M_Lat_canEncode d_Lat_indexOf_1 lc_Lat_88 wd_272 rfl rfl (Nat.le_of_ble_eq_true rfl) (Nat.le_of_ble_eq_true rfl) (Nat.le_of_ble_eq_true rfl) (Nat.le_refl _) (Nat.le_refl _) c1_0 ?_
  refine ev_purek ?_
  refine ev_if_ne (pc := 4) 9 d_Lat_indexOf_4 (by decide) (fun c4 => ?_) (fun c4 => ?_)
  · refine ev_iload_n (pc := 9) d_Lat_indexOf_9 rfl ?_
    refine ev_iconst (pc := 10) 0 d_Lat_indexOf_10 (by decide) ?_
    refine ev_mmax (pc := 11) d_Lat_indexOf_11 wd_274 wd_275 wd_15 wd_276 (Nat.le_of_ble_eq_true rfl) (Nat.le_of_ble_eq_true rfl) ?_
    refine ev_istore_n (pc := 14) d_Lat_indexOf_14 (Nat.le_of_ble_eq_true rfl) [1, 2, 0, 3] rfl ?_
    refine ev_iload_n (pc := 15) d_Lat_indexOf_15 rfl ?_
    refine ev_aload_n (pc := 16) d_Lat_indexOf_16 rfl ?_
    refine ev_talen (pc := 17) d_Lat_indexOf_17 h_r0 ?_
    refine ev_mmin (pc := 18) d_Lat_indexOf_18 wd_277 wd_278 wd_15 wd_279 (Nat.le_of_ble_eq_true rfl) (Nat.le_of_ble_eq_true rfl) ?_
    refine ev_istore_n (pc := 21) d_Lat_indexOf_21 (Nat.le_of_ble_eq_true rfl) [1, 2, 3, 0] rfl ?_
    refine ev_iload_n (pc := 22) d_Lat_indexOf_22 rfl ?_
    refine ev_iload_n (pc := 23) d_Lat_indexOf_23 rfl ?_
    refine ev_icmp_lt (pc := 24) 29 d_Lat_indexOf_24 (by decide) (fun c24 => ?_) (fun c24 => ?_)
    · refine ev_aload_n (pc := 29) d_Lat_indexOf_29 rfl ?_
      refine ev_iload_n (pc := 30) d_Lat_indexOf_30 rfl ?_
      refine ev_iload_n (pc := 31) d_Lat_indexOf_31 rfl ?_
      refine ev_iload_n (pc := 32) d_Lat_indexOf_32 rfl ?_
      refine ev_invokestatic (pc := 33) (As := [.ref r0, .int i1, .int (if i2 < 0 then 0 else i2), .int (if (nI r0_n) < i3 then nI r0_n else i3)]) (st := []) (Q2 := ev_pure (.int v33) n F) (bc1 := 0) (bs1 := 0) M_Lat_indexOfChar d_Lat_indexOf_33 lc_Lat_95 wd_281 rfl rfl (Nat.le_of_ble_eq_true rfl) (Nat.le_of_ble_eq_true rfl) (Nat.le_of_ble_eq_true rfl) (Nat.le_refl _) (Nat.le_refl _) (c33_1 c4 c24) ?_
      refine ev_purek ?_
      exact ev_ireturn (pc := 36) d_Lat_indexOf_36 rfl rfl (q36_2 c4 c24)
    · refine ev_iconst (pc := 27) (-1) d_Lat_indexOf_27 (by decide) ?_
      exact ev_ireturn (pc := 28) d_Lat_indexOf_28 rfl rfl (q28_3 c4 c24)
  · refine ev_iconst (pc := 7) (-1) d_Lat_indexOf_7 (by decide) ?_
    exact ev_ireturn (pc := 8) d_Lat_indexOf_8 rfl rfl (q8_4 c4)
set_option maxRecDepth 100000 in
set_option maxHeartbeats 4000000 in
theorem s_Lat_canEncode_0 {l : Launch} {X : ev_X} {bc bs n : Nat} {F : ev_H} {Q : Option Value → Nat → ev_H → Prop} {i0 : Int32} 
    (q16_0 : (i0 < 0) → Q (some (.int 0)) n F)
    (q16_1 : (¬ i0 < 0) → (255 < i0) → Q (some (.int 0)) n F)
    (q16_2 : (¬ i0 < 0) → (¬ 255 < i0) → Q (some (.int 1)) n F) :
    Ev l X M_Lat_canEncode bc bs 0 [(0, .int i0)] [] n F (ev_mq X Q) := by
  refine ev_iload_n (pc := 0) d_Lat_canEncode_0 rfl ?_
  refine ev_if_lt (pc := 1) 15 d_Lat_canEncode_1 (by decide) (fun c1 => ?_) (fun c1 => ?_)
  · refine ev_iconst (pc := 15) 0 d_Lat_canEncode_15 (by decide) ?_
    exact ev_ireturn (pc := 16) d_Lat_canEncode_16 rfl rfl (q16_0 c1)
  · refine ev_iload_n (pc := 4) d_Lat_canEncode_4 rfl ?_
    refine ev_sipush (pc := 5) 255 d_Lat_canEncode_5 (by decide) ?_
    refine ev_icmp_gt (pc := 8) 15 d_Lat_canEncode_8 (by decide) (fun c8 => ?_) (fun c8 => ?_)
    · refine ev_iconst (pc := 15) 0 d_Lat_canEncode_15 (by decide) ?_
      exact ev_ireturn (pc := 16) d_Lat_canEncode_16 rfl rfl (q16_1 c1 c8)
    · refine ev_iconst (pc := 11) 1 d_Lat_canEncode_11 (by decide) ?_
      refine ev_goto (pc := 12) 16 d_Lat_canEncode_12 (by decide) ?_
      exact ev_ireturn (pc := 16) d_Lat_canEncode_16 rfl rfl (q16_2 c1 c8)
set_option maxRecDepth 100000 in
set_option maxHeartbeats 4000000 in
theorem s_Lat_indexOfChar_0 {l : Launch} {X : ev_X} {bc bs n : Nat} {F : ev_H} {Q : Option Value → Nat → ev_H → Prop} {r0 : Nat} {i1 : Int32} {i2 : Int32} {i3 : Int32} 
    (k7_0 : Ev l X M_Lat_indexOfChar bc bs 7 [(0, .ref r0), (1, .int i1), (2, .int i2), (3, .int i3), (4, .int i1.toInt8.toInt32), (5, .int i2)] [] n F (ev_mq X Q)) :
    Ev l X M_Lat_indexOfChar bc bs 0 [(0, .ref r0), (1, .int i1), (2, .int i2), (3, .int i3)] [] n F (ev_mq X Q) := by
  refine ev_iload_n (pc := 0) d_Lat_indexOfChar_0 rfl ?_
  refine ev_i2b (pc := 1) d_Lat_indexOfChar_1 ?_
  refine ev_istore (pc := 2) d_Lat_indexOfChar_2 (Nat.le_of_ble_eq_true rfl) [1, 2, 3, 4, 0] rfl ?_
  refine ev_iload_n (pc := 4) d_Lat_indexOfChar_4 rfl ?_
  refine ev_istore (pc := 5) d_Lat_indexOfChar_5 (Nat.le_of_ble_eq_true rfl) [1, 2, 3, 4, 5, 0] rfl ?_
  exact k7_0

set_option maxRecDepth 100000 in
set_option maxHeartbeats 4000000 in
theorem s_Lat_indexOfChar_7 {l : Launch} {X : ev_X} {bc bs n : Nat} {F : ev_H} {Q : Option Value → Nat → ev_H → Prop} {r0 : Nat} {i1 : Int32} {i2 : Int32} {i3 : Int32} {i4 : Int32} {i5 : Int32} {r0_n : Nat} {r0_f : Nat → Int32} (h_r0 : ev_T X .byte r0 r0_n (fun j => .int (r0_f j)))
    (q32_0 : (i3 ≤ i5) → Q (some (.int (-1))) n F)
    (in16_1 : (¬ i3 ≤ i5) → vp_in i5 r0_n)
    (k7_2 : (¬ i3 ≤ i5) → (¬ (r0_f i5.toNatClampNeg) = i4) → Ev l X M_Lat_indexOfChar bc bs 7 [(0, .ref r0), (1, .int i1), (2, .int i2), (3, .int i3), (4, .int i4), (5, .int (i5 + 1))] [] n F (ev_mq X Q))
    (q24_3 : (¬ i3 ≤ i5) → ((r0_f i5.toNatClampNeg) = i4) → Q (some (.int i5)) n F) :
    Ev l X M_Lat_indexOfChar bc bs 7 [(0, .ref r0), (1, .int i1), (2, .int i2), (3, .int i3), (4, .int i4), (5, .int i5)] [] n F (ev_mq X Q) := by
  refine ev_iload (pc := 7) d_Lat_indexOfChar_7 rfl ?_
  refine ev_iload_n (pc := 9) d_Lat_indexOfChar_9 rfl ?_
  refine ev_icmp_ge (pc := 10) 31 d_Lat_indexOfChar_10 (by decide) (fun c10 => ?_) (fun c10 => ?_)
  · refine ev_iconst (pc := 31) (-1) d_Lat_indexOfChar_31 (by decide) ?_
    exact ev_ireturn (pc := 32) d_Lat_indexOfChar_32 rfl rfl (q32_0 c10)
  · refine ev_aload_n (pc := 13) d_Lat_indexOfChar_13 rfl ?_
    refine ev_iload (pc := 14) d_Lat_indexOfChar_14 rfl ?_
    refine ev_tbaload (pc := 16) d_Lat_indexOfChar_16 h_r0 (in16_1 c10) rfl ?_
    refine ev_iload (pc := 17) d_Lat_indexOfChar_17 rfl ?_
    refine ev_icmp_ne (pc := 19) 25 d_Lat_indexOfChar_19 (by decide) (fun c19 => ?_) (fun c19 => ?_)
    · refine ev_iinc (pc := 25) 5 1 d_Lat_indexOfChar_25 rfl (by decide) (Nat.le_of_ble_eq_true rfl) [1, 2, 3, 4, 5, 0] rfl ?_
      refine ev_goto (pc := 28) 7 d_Lat_indexOfChar_28 (by decide) ?_
      exact (k7_2 c10 c19)
    · refine ev_iload (pc := 22) d_Lat_indexOfChar_22 rfl ?_
      exact ev_ireturn (pc := 24) d_Lat_indexOfChar_24 rfl rfl (q24_3 c10 c19)
set_option maxRecDepth 100000 in
set_option maxHeartbeats 4000000 in
theorem s_Str_charAt_0 {l : Launch} {X : ev_X} {bc bs n : Nat} {F : ev_H} {Q : Option Value → Nat → ev_H → Prop} {r0 : Nat} {i1 : Int32} {r0_i : Nat} {v1 : Int32} {v21 : Int32} {v12 : Int32} (h_r0 : ev_isS X r0 r0_i)
    (c1_0 : Cal l X M_Str_isLatin1 0 0 [.ref r0] n F (ev_pure (.int v1) n F))
    (c21_1 : (v1 = 0) → Cal l X M_Utf_charAt 0 0 [.ref (X.2.2.2.1 (40 + r0_i)), .int i1] n F (ev_pure (.int v21) n F))
    (q24_2 : (v1 = 0) → Q (some (.int v21)) n F)
    (nr24_3 : (v1 = 0) → narrow .char (.int v21) = .int v21)
    (c12_4 : (¬ v1 = 0) → Cal l X M_Lat_charAt 0 0 [.ref (X.2.2.2.1 (40 + r0_i)), .int i1] n F (ev_pure (.int v12) n F))
    (q15_5 : (¬ v1 = 0) → Q (some (.int v12)) n F)
    (nr15_6 : (¬ v1 = 0) → narrow .char (.int v12) = .int v12) :
    Ev l X M_Str_charAt bc bs 0 [(0, .ref r0), (1, .int i1)] [] n F (ev_mq X Q) := by
  refine ev_aload_n (pc := 0) d_Str_charAt_0 rfl ?_
  refine ev_invokevirtualS (pc := 1) (As := []) (st := []) (Q2 := ev_pure (.int v1) n F) (bc1 := 0) (bs1 := 0) M_Str_isLatin1 d_Str_charAt_1 lc_Str_492 wd_255 wd_256 h_r0 rfl rfl (Nat.le_of_ble_eq_true rfl) (Nat.le_of_ble_eq_true rfl) (Nat.le_of_ble_eq_true rfl) (Nat.le_refl _) (Nat.le_refl _) c1_0 ?_
  refine ev_purek ?_
  refine ev_if_eq (pc := 4) 16 d_Str_charAt_4 (by decide) (fun c4 => ?_) (fun c4 => ?_)
  · refine ev_aload_n (pc := 16) d_Str_charAt_16 rfl ?_
    refine ev_getValue (pc := 17) d_Str_charAt_17 h_r0 wd_1223 ?_
    refine ev_iload_n (pc := 20) d_Str_charAt_20 rfl ?_
    refine ev_invokestatic (pc := 21) (As := [.ref (X.2.2.2.1 (40 + r0_i)), .int i1]) (st := []) (Q2 := ev_pure (.int v21) n F) (bc1 := 0) (bs1 := 0) M_Utf_charAt d_Str_charAt_21 lc_Str_498 wd_356 rfl rfl (Nat.le_of_ble_eq_true rfl) (Nat.le_of_ble_eq_true rfl) (Nat.le_of_ble_eq_true rfl) (Nat.le_refl _) (Nat.le_refl _) (c21_1 c4) ?_
    refine ev_purek ?_
    exact ev_ireturn (pc := 24) d_Str_charAt_24 rfl (nr24_3 c4) (q24_2 c4)
  · refine ev_aload_n (pc := 7) d_Str_charAt_7 rfl ?_
    refine ev_getValue (pc := 8) d_Str_charAt_8 h_r0 wd_1223 ?_
    refine ev_iload_n (pc := 11) d_Str_charAt_11 rfl ?_
    refine ev_invokestatic (pc := 12) (As := [.ref (X.2.2.2.1 (40 + r0_i)), .int i1]) (st := []) (Q2 := ev_pure (.int v12) n F) (bc1 := 0) (bs1 := 0) M_Lat_charAt d_Str_charAt_12 lc_Str_495 wd_347 rfl rfl (Nat.le_of_ble_eq_true rfl) (Nat.le_of_ble_eq_true rfl) (Nat.le_of_ble_eq_true rfl) (Nat.le_refl _) (Nat.le_refl _) (c12_4 c4) ?_
    refine ev_purek ?_
    exact ev_ireturn (pc := 15) d_Str_charAt_15 rfl (nr15_6 c4) (q15_5 c4)
set_option maxRecDepth 100000 in
set_option maxHeartbeats 4000000 in
theorem s_Lat_charAt_0 {l : Launch} {X : ev_X} {bc bs n : Nat} {F : ev_H} {Q : Option Value → Nat → ev_H → Prop} {r0 : Nat} {i1 : Int32} {r0_n : Nat} {r0_f : Nat → Int32} (h_r0 : ev_T X .byte r0 r0_n (fun j => .int (r0_f j)))
    (c3_0 : Cal l X M_Str_checkIndex 0 0 [.int i1, .int (nI r0_n)] n F (ev_void n F))
    (in8_1 : vp_in i1 r0_n)
    (q14_2 : Q (some (.int ((((r0_f i1.toNatClampNeg) &&& 255).toUInt32 % 65536).toInt32))) n F)
    (nr14_3 : narrow .char (.int ((((r0_f i1.toNatClampNeg) &&& 255).toUInt32 % 65536).toInt32)) = .int ((((r0_f i1.toNatClampNeg) &&& 255).toUInt32 % 65536).toInt32)) :
    Ev l X M_Lat_charAt bc bs 0 [(0, .ref r0), (1, .int i1)] [] n F (ev_mq X Q) := by
  refine ev_iload_n (pc := 0) d_Lat_charAt_0 rfl ?_
  refine ev_aload_n (pc := 1) d_Lat_charAt_1 rfl ?_
  refine ev_talen (pc := 2) d_Lat_charAt_2 h_r0 ?_
  refine ev_invokestatic (pc := 3) (As := [.int i1, .int (nI r0_n)]) (st := []) (Q2 := ev_void n F) (bc1 := 0) (bs1 := 0) M_Str_checkIndex d_Lat_charAt_3 lc_Lat_9 wd_350 rfl rfl (Nat.le_of_ble_eq_true rfl) (Nat.le_of_ble_eq_true rfl) (Nat.le_of_ble_eq_true rfl) (Nat.le_refl _) (Nat.le_refl _) c3_0 ?_
  refine ev_voidk ?_
  refine ev_aload_n (pc := 6) d_Lat_charAt_6 rfl ?_
  refine ev_iload_n (pc := 7) d_Lat_charAt_7 rfl ?_
  refine ev_tbaload (pc := 8) d_Lat_charAt_8 h_r0 in8_1 rfl ?_
  refine ev_sipush (pc := 9) 255 d_Lat_charAt_9 (by decide) ?_
  refine ev_iand (pc := 12) d_Lat_charAt_12 ?_
  refine ev_i2c (pc := 13) d_Lat_charAt_13 ?_
  exact ev_ireturn (pc := 14) d_Lat_charAt_14 rfl nr14_3 q14_2
set_option maxRecDepth 100000 in
set_option maxHeartbeats 4000000 in
theorem s_Str_checkIndex_0 {l : Launch} {X : ev_X} {bc bs n : Nat} {F : ev_H} {Q : Option Value → Nat → ev_H → Prop} {i0 : Int32} {i1 : Int32} {v5 : Int32} {v5_2 : Int32} 
    (c5_0 : True → Cal l X M_Pre_checkIndex 0 0 [.int i0, .int i1, .null] n F (ev_pure (.int v5) n F))
    (q9_1 : True → Q none n F)
    (c5_2 : ∀ t2 : Nat, Cal l X M_Pre_checkIndex 0 0 [.int i0, .int i1, .ref t2] n F (ev_pure (.int v5_2) n F))
    (q9_3 : ∀ t2 : Nat, Q none n F) :
    Ev l X M_Str_checkIndex bc bs 0 [(0, .int i0), (1, .int i1)] [] n F (ev_mq X Q) := by
  refine ev_iload_n (pc := 0) d_Str_checkIndex_0 rfl ?_
  refine ev_iload_n (pc := 1) d_Str_checkIndex_1 rfl ?_
  refine ev_getstaticQ (pc := 2) d_Str_checkIndex_2 (fun _ h => h.2.1.2) (Or.inl wd_301) ?_ (fun t2 => ?_)
  · refine ev_invokestatic (pc := 5) (As := [.int i0, .int i1, .null]) (st := []) (Q2 := ev_pure (.int v5) n F) (bc1 := 0) (bs1 := 0) M_Pre_checkIndex d_Str_checkIndex_5 lc_Str_1059 wd_353 rfl rfl (Nat.le_of_ble_eq_true rfl) (Nat.le_of_ble_eq_true rfl) (Nat.le_of_ble_eq_true rfl) (Nat.le_refl _) (Nat.le_refl _) (c5_0 trivial) ?_
    refine ev_purek ?_
    refine ev_pop (pc := 8) d_Str_checkIndex_8 rfl ?_
    exact ev_return (pc := 9) d_Str_checkIndex_9 rfl (q9_1 trivial)
  · refine ev_invokestatic (pc := 5) (As := [.int i0, .int i1, .ref t2]) (st := []) (Q2 := ev_pure (.int v5_2) n F) (bc1 := 0) (bs1 := 0) M_Pre_checkIndex d_Str_checkIndex_5 lc_Str_1059 wd_353 rfl rfl (Nat.le_of_ble_eq_true rfl) (Nat.le_of_ble_eq_true rfl) (Nat.le_of_ble_eq_true rfl) (Nat.le_refl _) (Nat.le_refl _) (c5_2 t2) ?_
    refine ev_purek ?_
    refine ev_pop (pc := 8) d_Str_checkIndex_8 rfl ?_
    exact ev_return (pc := 9) d_Str_checkIndex_9 rfl (q9_3 t2)
set_option maxRecDepth 100000 in
set_option maxHeartbeats 4000000 in
theorem s_Pre_checkIndex_0 {l : Launch} {X : ev_X} {bc bs n : Nat} {F : ev_H} {Q : Option Value → Nat → ev_H → Prop} {i0 : Int32} {i1 : Int32} 
    (no9_0 : (i0 < 0) → False)
    (q17_1 : (¬ i0 < 0) → (i0 < i1) → Q (some (.int i0)) n F)
    (no9_2 : (¬ i0 < 0) → (¬ i0 < i1) → False) :
    Ev l X M_Pre_checkIndex bc bs 0 [(0, .int i0), (1, .int i1)] [] n F (ev_mq X Q) := by
  refine ev_iload_n (pc := 0) d_Pre_checkIndex_0 rfl ?_
  refine ev_if_lt (pc := 1) 9 d_Pre_checkIndex_1 (by decide) (fun c1 => ?_) (fun c1 => ?_)
  · exact (no9_0 c1).elim
  · refine ev_iload_n (pc := 4) d_Pre_checkIndex_4 rfl ?_
    refine ev_iload_n (pc := 5) d_Pre_checkIndex_5 rfl ?_
    refine ev_icmp_lt (pc := 6) 16 d_Pre_checkIndex_6 (by decide) (fun c6 => ?_) (fun c6 => ?_)
    · refine ev_iload_n (pc := 16) d_Pre_checkIndex_16 rfl ?_
      exact ev_ireturn (pc := 17) d_Pre_checkIndex_17 rfl rfl (q17_1 c1 c6)
    · exact (no9_2 c1 c6).elim
set_option maxRecDepth 100000 in
set_option maxHeartbeats 4000000 in
theorem s_Obs_checkIndex_0 {l : Launch} {X : ev_X} {bc bs n : Nat} {F : ev_H} {Q : Option Value → Nat → ev_H → Prop} {i0 : Int32} {i1 : Int32} {v3 : Int32} 
    (c3_0 : Cal l X M_Pre_checkIndex 0 0 [.int i0, .int i1, .null] n F (ev_pure (.int v3) n F))
    (q6_1 : Q (some (.int v3)) n F) :
    Ev l X M_Obs_checkIndex bc bs 0 [(0, .int i0), (1, .int i1)] [] n F (ev_mq X Q) := by
  refine ev_iload_n (pc := 0) d_Obs_checkIndex_0 rfl ?_
  refine ev_iload_n (pc := 1) d_Obs_checkIndex_1 rfl ?_
  refine ev_null (pc := 2) d_Obs_checkIndex_2 ?_
  refine ev_invokestatic (pc := 3) (As := [.int i0, .int i1, .null]) (st := []) (Q2 := ev_pure (.int v3) n F) (bc1 := 0) (bs1 := 0) M_Pre_checkIndex d_Obs_checkIndex_3 lc_Obs_105 wd_353 rfl rfl (Nat.le_of_ble_eq_true rfl) (Nat.le_of_ble_eq_true rfl) (Nat.le_of_ble_eq_true rfl) (Nat.le_refl _) (Nat.le_refl _) c3_0 ?_
  refine ev_purek ?_
  exact ev_ireturn (pc := 6) d_Obs_checkIndex_6 rfl rfl q6_1
