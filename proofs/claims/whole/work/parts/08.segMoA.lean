set_option maxRecDepth 100000 in
set_option maxHeartbeats 4000000 in
theorem s_Mo_letter_0 {l : Launch} {X : ev_X} {bc bs n : Nat} {F : ev_H} {Q : Option Value → Nat → ev_H → Prop} {j0 : Int64} {i2 : Int32} 
    (q10_0 : Q (some (.int (((j0 >>> ((5 * i2).toInt64 &&& 63)) &&& 31).toInt32))) n F) :
    Ev l X M_Mo_letter bc bs 0 [(0, .long j0), (2, .int i2)] [] n F (ev_mq X Q) := by
  refine ev_lload_n (pc := 0) d_Mo_letter_0 rfl ?_
  refine ev_iconst (pc := 1) 5 d_Mo_letter_1 (by decide) ?_
  refine ev_iload_n (pc := 2) d_Mo_letter_2 rfl ?_
  refine ev_imul (pc := 3) d_Mo_letter_3 ?_
  refine ev_lshr (pc := 4) d_Mo_letter_4 ?_
  refine ev_ldc2 (pc := 5) (v := 31) d_Mo_letter_5 wd_997 ?_
  refine ev_land (pc := 8) d_Mo_letter_8 ?_
  refine ev_l2i (pc := 9) d_Mo_letter_9 ?_
  exact ev_ireturn (pc := 10) d_Mo_letter_10 rfl rfl q10_0
set_option maxRecDepth 100000 in
set_option maxHeartbeats 4000000 in
theorem s_Mo_length_0 {l : Launch} {X : ev_X} {bc bs n : Nat} {F : ev_H} {Q : Option Value → Nat → ev_H → Prop} {j0 : Int64} 
    (k2_0 : Ev l X M_Mo_length bc bs 2 [(0, .long j0), (2, .int 0)] [] n F (ev_mq X Q)) :
    Ev l X M_Mo_length bc bs 0 [(0, .long j0)] [] n F (ev_mq X Q) := by
  refine ev_iconst (pc := 0) 0 d_Mo_length_0 (by decide) ?_
  refine ev_istore_n (pc := 1) d_Mo_length_1 (Nat.le_of_ble_eq_true rfl) [1, 0] rfl ?_
  exact k2_0

set_option maxRecDepth 100000 in
set_option maxHeartbeats 4000000 in
theorem s_Mo_length_2 {l : Launch} {X : ev_X} {bc bs n : Nat} {F : ev_H} {Q : Option Value → Nat → ev_H → Prop} {j0 : Int64} {i2 : Int32} 
    (q25_0 : (12 ≤ i2) → Q (some (.int i2)) n F)
    (q25_1 : (¬ 12 ≤ i2) → ((lg_cmp (j0 >>> ((5 * i2).toInt64 &&& 63)) 0) = 0) → Q (some (.int i2)) n F)
    (k2_2 : (¬ 12 ≤ i2) → (¬ (lg_cmp (j0 >>> ((5 * i2).toInt64 &&& 63)) 0) = 0) → Ev l X M_Mo_length bc bs 2 [(0, .long j0), (2, .int (i2 + 1))] [] n F (ev_mq X Q)) :
    Ev l X M_Mo_length bc bs 2 [(0, .long j0), (2, .int i2)] [] n F (ev_mq X Q) := by
  refine ev_iload_n (pc := 2) d_Mo_length_2 rfl ?_
  refine ev_bipush (pc := 3) 12 d_Mo_length_3 (by decide) ?_
  refine ev_icmp_ge (pc := 5) 24 d_Mo_length_5 (by decide) (fun c5 => ?_) (fun c5 => ?_)
  · refine ev_iload_n (pc := 24) d_Mo_length_24 rfl ?_
    exact ev_ireturn (pc := 25) d_Mo_length_25 rfl rfl (q25_0 c5)
  · refine ev_lload_n (pc := 8) d_Mo_length_8 rfl ?_
    refine ev_iconst (pc := 9) 5 d_Mo_length_9 (by decide) ?_
    refine ev_iload_n (pc := 10) d_Mo_length_10 rfl ?_
    refine ev_imul (pc := 11) d_Mo_length_11 ?_
    refine ev_lshr (pc := 12) d_Mo_length_12 ?_
    refine ev_lconst (pc := 13) 0 d_Mo_length_13 (by decide) ?_
    refine ev_lcmp (pc := 14) d_Mo_length_14 ?_
    refine ev_if_eq (pc := 15) 24 d_Mo_length_15 (by decide) (fun c15 => ?_) (fun c15 => ?_)
    · refine ev_iload_n (pc := 24) d_Mo_length_24 rfl ?_
      exact ev_ireturn (pc := 25) d_Mo_length_25 rfl rfl (q25_1 c5 c15)
    · refine ev_iinc (pc := 18) 1 1 d_Mo_length_18 rfl (by decide) (Nat.le_of_ble_eq_true rfl) [1, 0] rfl ?_
      refine ev_goto (pc := 21) 2 d_Mo_length_21 (by decide) ?_
      exact (k2_2 c5 c15)
set_option maxRecDepth 100000 in
set_option maxHeartbeats 4000000 in
theorem s_Mo_isVowel_0 {l : Launch} {X : ev_X} {bc bs n : Nat} {F : ev_H} {Q : Option Value → Nat → ev_H → Prop} {j0 : Int64} {i2 : Int32} 
    (k5_0 : Ev l X M_Mo_isVowel bc bs 5 [(0, .long j0), (2, .int i2), (3, .int 0), (4, .int 0)] [] n F (ev_mq X Q)) :
    Ev l X M_Mo_isVowel bc bs 0 [(0, .long j0), (2, .int i2)] [] n F (ev_mq X Q) := by
  refine ev_iconst (pc := 0) 0 d_Mo_isVowel_0 (by decide) ?_
  refine ev_istore_n (pc := 1) d_Mo_isVowel_1 (Nat.le_of_ble_eq_true rfl) [1, 2, 0] rfl ?_
  refine ev_iconst (pc := 2) 0 d_Mo_isVowel_2 (by decide) ?_
  refine ev_istore (pc := 3) d_Mo_isVowel_3 (Nat.le_of_ble_eq_true rfl) [1, 2, 3, 0] rfl ?_
  exact k5_0

set_option maxRecDepth 100000 in
set_option maxHeartbeats 4000000 in
theorem s_Mo_isVowel_5 {l : Launch} {X : ev_X} {bc bs n : Nat} {F : ev_H} {Q : Option Value → Nat → ev_H → Prop} {j0 : Int64} {i2 : Int32} {i3 : Int32} {i4 : Int32} {v14 : Int32} 
    (q81_0 : (i2 < i4) → Q (some (.int i3)) n F)
    (nr81_1 : (i2 < i4) → narrow .boolean (.int i3) = .int i3)
    (c14_2 : (¬ i2 < i4) → Cal l X M_Mo_letter 0 0 [.long j0, .int i4] n F (ev_pure (.int v14) n F))
    (k5_3 : (¬ i2 < i4) → (v14 = 1) → Ev l X M_Mo_isVowel bc bs 5 [(0, .long j0), (2, .int i2), (3, .int 1), (4, .int (i4 + 1))] [] n F (ev_mq X Q))
    (k5_4 : (¬ i2 < i4) → (¬ v14 = 1) → (v14 = 5) → Ev l X M_Mo_isVowel bc bs 5 [(0, .long j0), (2, .int i2), (3, .int 1), (4, .int (i4 + 1))] [] n F (ev_mq X Q))
    (k5_5 : (¬ i2 < i4) → (¬ v14 = 1) → (¬ v14 = 5) → (v14 = 9) → Ev l X M_Mo_isVowel bc bs 5 [(0, .long j0), (2, .int i2), (3, .int 1), (4, .int (i4 + 1))] [] n F (ev_mq X Q))
    (k5_6 : (¬ i2 < i4) → (¬ v14 = 1) → (¬ v14 = 5) → (¬ v14 = 9) → (v14 = 15) → Ev l X M_Mo_isVowel bc bs 5 [(0, .long j0), (2, .int i2), (3, .int 1), (4, .int (i4 + 1))] [] n F (ev_mq X Q))
    (k5_7 : (¬ i2 < i4) → (¬ v14 = 1) → (¬ v14 = 5) → (¬ v14 = 9) → (¬ v14 = 15) → (v14 = 21) → Ev l X M_Mo_isVowel bc bs 5 [(0, .long j0), (2, .int i2), (3, .int 1), (4, .int (i4 + 1))] [] n F (ev_mq X Q))
    (k5_8 : (¬ i2 < i4) → (¬ v14 = 1) → (¬ v14 = 5) → (¬ v14 = 9) → (¬ v14 = 15) → (¬ v14 = 21) → (¬ v14 = 25) → Ev l X M_Mo_isVowel bc bs 5 [(0, .long j0), (2, .int i2), (3, .int 0), (4, .int (i4 + 1))] [] n F (ev_mq X Q))
    (k5_9 : (¬ i2 < i4) → (¬ v14 = 1) → (¬ v14 = 5) → (¬ v14 = 9) → (¬ v14 = 15) → (¬ v14 = 21) → (v14 = 25) → (i4 ≤ 0) → Ev l X M_Mo_isVowel bc bs 5 [(0, .long j0), (2, .int i2), (3, .int 0), (4, .int (i4 + 1))] [] n F (ev_mq X Q))
    (k5_10 : (¬ i2 < i4) → (¬ v14 = 1) → (¬ v14 = 5) → (¬ v14 = 9) → (¬ v14 = 15) → (¬ v14 = 21) → (v14 = 25) → (¬ i4 ≤ 0) → (¬ i3 = 0) → Ev l X M_Mo_isVowel bc bs 5 [(0, .long j0), (2, .int i2), (3, .int 0), (4, .int (i4 + 1))] [] n F (ev_mq X Q))
    (k5_11 : (¬ i2 < i4) → (¬ v14 = 1) → (¬ v14 = 5) → (¬ v14 = 9) → (¬ v14 = 15) → (¬ v14 = 21) → (v14 = 25) → (¬ i4 ≤ 0) → (i3 = 0) → Ev l X M_Mo_isVowel bc bs 5 [(0, .long j0), (2, .int i2), (3, .int 1), (4, .int (i4 + 1))] [] n F (ev_mq X Q)) :
    Ev l X M_Mo_isVowel bc bs 5 [(0, .long j0), (2, .int i2), (3, .int i3), (4, .int i4)] [] n F (ev_mq X Q) := by
  refine ev_iload (pc := 5) d_Mo_isVowel_5 rfl ?_
  refine ev_iload_n (pc := 7) d_Mo_isVowel_7 rfl ?_
  refine ev_icmp_gt (pc := 8) 80 d_Mo_isVowel_8 (by decide) (fun c8 => ?_) (fun c8 => ?_)
  · refine ev_iload_n (pc := 80) d_Mo_isVowel_80 rfl ?_
    exact ev_ireturn (pc := 81) d_Mo_isVowel_81 rfl (nr81_1 c8) (q81_0 c8)
  · refine ev_lload_n (pc := 11) d_Mo_isVowel_11 rfl ?_
    refine ev_iload (pc := 12) d_Mo_isVowel_12 rfl ?_
    refine ev_invokestatic (pc := 14) (As := [.long j0, .int i4]) (st := []) (Q2 := ev_pure (.int v14) n F) (bc1 := 0) (bs1 := 0) M_Mo_letter d_Mo_isVowel_14 lc_Mo_75 wd_995 rfl rfl (Nat.le_of_ble_eq_true rfl) (Nat.le_of_ble_eq_true rfl) (Nat.le_of_ble_eq_true rfl) (Nat.le_refl _) (Nat.le_refl _) (c14_2 c8) ?_
    refine ev_purek ?_
    refine ev_istore (pc := 17) d_Mo_isVowel_17 (Nat.le_of_ble_eq_true rfl) [1, 2, 3, 4, 0] rfl ?_
    refine ev_iload (pc := 19) d_Mo_isVowel_19 rfl ?_
    refine ev_iconst (pc := 21) 1 d_Mo_isVowel_21 (by decide) ?_
    refine ev_icmp_eq (pc := 22) 68 d_Mo_isVowel_22 (by decide) (fun c22 => ?_) (fun c22 => ?_)
    · refine ev_iconst (pc := 68) 1 d_Mo_isVowel_68 (by decide) ?_
      refine ev_goto (pc := 69) 73 d_Mo_isVowel_69 (by decide) ?_
      refine ev_istore_n (pc := 73) d_Mo_isVowel_73 (Nat.le_of_ble_eq_true rfl) [1, 2, 0, 3, 4] rfl ?_
      refine ev_iinc (pc := 74) 3 1 d_Mo_isVowel_74 rfl (by decide) (Nat.le_of_ble_eq_true rfl) [1, 2, 3, 0, 4] rfl ?_
      refine ev_goto (pc := 77) 5 d_Mo_isVowel_77 (by decide) ?_
      exact Ev.sub [0, 1, 2, 3] rfl (k5_3 c8 c22)
    · refine ev_iload (pc := 25) d_Mo_isVowel_25 rfl ?_
      refine ev_iconst (pc := 27) 5 d_Mo_isVowel_27 (by decide) ?_
      refine ev_icmp_eq (pc := 28) 68 d_Mo_isVowel_28 (by decide) (fun c28 => ?_) (fun c28 => ?_)
      · refine ev_iconst (pc := 68) 1 d_Mo_isVowel_68 (by decide) ?_
        refine ev_goto (pc := 69) 73 d_Mo_isVowel_69 (by decide) ?_
        refine ev_istore_n (pc := 73) d_Mo_isVowel_73 (Nat.le_of_ble_eq_true rfl) [1, 2, 0, 3, 4] rfl ?_
        refine ev_iinc (pc := 74) 3 1 d_Mo_isVowel_74 rfl (by decide) (Nat.le_of_ble_eq_true rfl) [1, 2, 3, 0, 4] rfl ?_
        refine ev_goto (pc := 77) 5 d_Mo_isVowel_77 (by decide) ?_
        exact Ev.sub [0, 1, 2, 3] rfl (k5_4 c8 c22 c28)
      · refine ev_iload (pc := 31) d_Mo_isVowel_31 rfl ?_
        refine ev_bipush (pc := 33) 9 d_Mo_isVowel_33 (by decide) ?_
        refine ev_icmp_eq (pc := 35) 68 d_Mo_isVowel_35 (by decide) (fun c35 => ?_) (fun c35 => ?_)
        · refine ev_iconst (pc := 68) 1 d_Mo_isVowel_68 (by decide) ?_
          refine ev_goto (pc := 69) 73 d_Mo_isVowel_69 (by decide) ?_
          refine ev_istore_n (pc := 73) d_Mo_isVowel_73 (Nat.le_of_ble_eq_true rfl) [1, 2, 0, 3, 4] rfl ?_
          refine ev_iinc (pc := 74) 3 1 d_Mo_isVowel_74 rfl (by decide) (Nat.le_of_ble_eq_true rfl) [1, 2, 3, 0, 4] rfl ?_
          refine ev_goto (pc := 77) 5 d_Mo_isVowel_77 (by decide) ?_
          exact Ev.sub [0, 1, 2, 3] rfl (k5_5 c8 c22 c28 c35)
        · refine ev_iload (pc := 38) d_Mo_isVowel_38 rfl ?_
          refine ev_bipush (pc := 40) 15 d_Mo_isVowel_40 (by decide) ?_
          refine ev_icmp_eq (pc := 42) 68 d_Mo_isVowel_42 (by decide) (fun c42 => ?_) (fun c42 => ?_)
          · refine ev_iconst (pc := 68) 1 d_Mo_isVowel_68 (by decide) ?_
            refine ev_goto (pc := 69) 73 d_Mo_isVowel_69 (by decide) ?_
            refine ev_istore_n (pc := 73) d_Mo_isVowel_73 (Nat.le_of_ble_eq_true rfl) [1, 2, 0, 3, 4] rfl ?_
            refine ev_iinc (pc := 74) 3 1 d_Mo_isVowel_74 rfl (by decide) (Nat.le_of_ble_eq_true rfl) [1, 2, 3, 0, 4] rfl ?_
            refine ev_goto (pc := 77) 5 d_Mo_isVowel_77 (by decide) ?_
            exact Ev.sub [0, 1, 2, 3] rfl (k5_6 c8 c22 c28 c35 c42)
          · refine ev_iload (pc := 45) d_Mo_isVowel_45 rfl ?_
            refine ev_bipush (pc := 47) 21 d_Mo_isVowel_47 (by decide) ?_
            refine ev_icmp_eq (pc := 49) 68 d_Mo_isVowel_49 (by decide) (fun c49 => ?_) (fun c49 => ?_)
            · refine ev_iconst (pc := 68) 1 d_Mo_isVowel_68 (by decide) ?_
              refine ev_goto (pc := 69) 73 d_Mo_isVowel_69 (by decide) ?_
              refine ev_istore_n (pc := 73) d_Mo_isVowel_73 (Nat.le_of_ble_eq_true rfl) [1, 2, 0, 3, 4] rfl ?_
              refine ev_iinc (pc := 74) 3 1 d_Mo_isVowel_74 rfl (by decide) (Nat.le_of_ble_eq_true rfl) [1, 2, 3, 0, 4] rfl ?_
              refine ev_goto (pc := 77) 5 d_Mo_isVowel_77 (by decide) ?_
              exact Ev.sub [0, 1, 2, 3] rfl (k5_7 c8 c22 c28 c35 c42 c49)
            · refine ev_iload (pc := 52) d_Mo_isVowel_52 rfl ?_
              refine ev_bipush (pc := 54) 25 d_Mo_isVowel_54 (by decide) ?_
              refine ev_icmp_ne (pc := 56) 72 d_Mo_isVowel_56 (by decide) (fun c56 => ?_) (fun c56 => ?_)
              · refine ev_iconst (pc := 72) 0 d_Mo_isVowel_72 (by decide) ?_
                refine ev_istore_n (pc := 73) d_Mo_isVowel_73 (Nat.le_of_ble_eq_true rfl) [1, 2, 0, 3, 4] rfl ?_
                refine ev_iinc (pc := 74) 3 1 d_Mo_isVowel_74 rfl (by decide) (Nat.le_of_ble_eq_true rfl) [1, 2, 3, 0, 4] rfl ?_
                refine ev_goto (pc := 77) 5 d_Mo_isVowel_77 (by decide) ?_
                exact Ev.sub [0, 1, 2, 3] rfl (k5_8 c8 c22 c28 c35 c42 c49 c56)
              · refine ev_iload (pc := 59) d_Mo_isVowel_59 rfl ?_
                refine ev_if_le (pc := 61) 72 d_Mo_isVowel_61 (by decide) (fun c61 => ?_) (fun c61 => ?_)
                · refine ev_iconst (pc := 72) 0 d_Mo_isVowel_72 (by decide) ?_
                  refine ev_istore_n (pc := 73) d_Mo_isVowel_73 (Nat.le_of_ble_eq_true rfl) [1, 2, 0, 3, 4] rfl ?_
                  refine ev_iinc (pc := 74) 3 1 d_Mo_isVowel_74 rfl (by decide) (Nat.le_of_ble_eq_true rfl) [1, 2, 3, 0, 4] rfl ?_
                  refine ev_goto (pc := 77) 5 d_Mo_isVowel_77 (by decide) ?_
                  exact Ev.sub [0, 1, 2, 3] rfl (k5_9 c8 c22 c28 c35 c42 c49 c56 c61)
                · refine ev_iload_n (pc := 64) d_Mo_isVowel_64 rfl ?_
                  refine ev_if_ne (pc := 65) 72 d_Mo_isVowel_65 (by decide) (fun c65 => ?_) (fun c65 => ?_)
                  · refine ev_iconst (pc := 72) 0 d_Mo_isVowel_72 (by decide) ?_
                    refine ev_istore_n (pc := 73) d_Mo_isVowel_73 (Nat.le_of_ble_eq_true rfl) [1, 2, 0, 3, 4] rfl ?_
                    refine ev_iinc (pc := 74) 3 1 d_Mo_isVowel_74 rfl (by decide) (Nat.le_of_ble_eq_true rfl) [1, 2, 3, 0, 4] rfl ?_
                    refine ev_goto (pc := 77) 5 d_Mo_isVowel_77 (by decide) ?_
                    exact Ev.sub [0, 1, 2, 3] rfl (k5_10 c8 c22 c28 c35 c42 c49 c56 c61 c65)
                  · refine ev_iconst (pc := 68) 1 d_Mo_isVowel_68 (by decide) ?_
                    refine ev_goto (pc := 69) 73 d_Mo_isVowel_69 (by decide) ?_
                    refine ev_istore_n (pc := 73) d_Mo_isVowel_73 (Nat.le_of_ble_eq_true rfl) [1, 2, 0, 3, 4] rfl ?_
                    refine ev_iinc (pc := 74) 3 1 d_Mo_isVowel_74 rfl (by decide) (Nat.le_of_ble_eq_true rfl) [1, 2, 3, 0, 4] rfl ?_
                    refine ev_goto (pc := 77) 5 d_Mo_isVowel_77 (by decide) ?_
                    exact Ev.sub [0, 1, 2, 3] rfl (k5_11 c8 c22 c28 c35 c42 c49 c56 c61 c65)
set_option maxRecDepth 100000 in
set_option maxHeartbeats 4000000 in
theorem s_Mo_isWord_0 {l : Launch} {X : ev_X} {bc bs n : Nat} {F : ev_H} {Q : Option Value → Nat → ev_H → Prop} {j0 : Int64} 
    (q16_0 : ((lg_cmp j0 0) ≤ 0) → Q (some (.int 0)) n F)
    (k21_1 : (¬ (lg_cmp j0 0) ≤ 0) → ((lg_cmp (j0 >>> ((60 : Int32).toInt64 &&& 63)) 0) = 0) → Ev l X M_Mo_isWord bc bs 21 [(0, .long j0), (2, .int 1), (3, .int 0)] [] n F (ev_mq X Q))
    (q16_2 : (¬ (lg_cmp j0 0) ≤ 0) → (¬ (lg_cmp (j0 >>> ((60 : Int32).toInt64 &&& 63)) 0) = 0) → Q (some (.int 0)) n F) :
    Ev l X M_Mo_isWord bc bs 0 [(0, .long j0)] [] n F (ev_mq X Q) := by
  refine ev_lload_n (pc := 0) d_Mo_isWord_0 rfl ?_
  refine ev_lconst (pc := 1) 0 d_Mo_isWord_1 (by decide) ?_
  refine ev_lcmp (pc := 2) d_Mo_isWord_2 ?_
  refine ev_if_le (pc := 3) 15 d_Mo_isWord_3 (by decide) (fun c3 => ?_) (fun c3 => ?_)
  · refine ev_iconst (pc := 15) 0 d_Mo_isWord_15 (by decide) ?_
    exact ev_ireturn (pc := 16) d_Mo_isWord_16 rfl rfl (q16_0 c3)
  · refine ev_lload_n (pc := 6) d_Mo_isWord_6 rfl ?_
    refine ev_bipush (pc := 7) 60 d_Mo_isWord_7 (by decide) ?_
    refine ev_lshr (pc := 9) d_Mo_isWord_9 ?_
    refine ev_lconst (pc := 10) 0 d_Mo_isWord_10 (by decide) ?_
    refine ev_lcmp (pc := 11) d_Mo_isWord_11 ?_
    refine ev_if_eq (pc := 12) 17 d_Mo_isWord_12 (by decide) (fun c12 => ?_) (fun c12 => ?_)
    · refine ev_iconst (pc := 17) 1 d_Mo_isWord_17 (by decide) ?_
      refine ev_istore_n (pc := 18) d_Mo_isWord_18 (Nat.le_of_ble_eq_true rfl) [1, 0] rfl ?_
      refine ev_iconst (pc := 19) 0 d_Mo_isWord_19 (by decide) ?_
      refine ev_istore_n (pc := 20) d_Mo_isWord_20 (Nat.le_of_ble_eq_true rfl) [1, 2, 0] rfl ?_
      exact (k21_1 c3 c12)
    · refine ev_iconst (pc := 15) 0 d_Mo_isWord_15 (by decide) ?_
      exact ev_ireturn (pc := 16) d_Mo_isWord_16 rfl rfl (q16_2 c3 c12)

set_option maxRecDepth 100000 in
set_option maxHeartbeats 4000000 in
theorem s_Mo_isWord_21 {l : Launch} {X : ev_X} {bc bs n : Nat} {F : ev_H} {Q : Option Value → Nat → ev_H → Prop} {j0 : Int64} {i2 : Int32} {i3 : Int32} {v23 : Int32} {v35 : Int32} {v44 : Int32} 
    (c23_0 : Cal l X M_Mo_length 0 0 [.long j0] n F (ev_pure (.int v23) n F))
    (q65_1 : (v23 ≤ i3) → Q (some (.int i2)) n F)
    (nr65_2 : (v23 ≤ i3) → narrow .boolean (.int i2) = .int i2)
    (k21_3 : (¬ v23 ≤ i3) → (i2 = 0) → Ev l X M_Mo_isWord bc bs 21 [(0, .long j0), (2, .int 0), (3, .int (i3 + 1))] [] n F (ev_mq X Q))
    (c35_4 : (¬ v23 ≤ i3) → (¬ i2 = 0) → Cal l X M_Mo_letter 0 0 [.long j0, .int i3] n F (ev_pure (.int v35) n F))
    (k21_5 : (¬ v23 ≤ i3) → (¬ i2 = 0) → (v35 < 1) → Ev l X M_Mo_isWord bc bs 21 [(0, .long j0), (2, .int 0), (3, .int (i3 + 1))] [] n F (ev_mq X Q))
    (c44_6 : (¬ v23 ≤ i3) → (¬ i2 = 0) → (¬ v35 < 1) → Cal l X M_Mo_letter 0 0 [.long j0, .int i3] n F (ev_pure (.int v44) n F))
    (k21_7 : (¬ v23 ≤ i3) → (¬ i2 = 0) → (¬ v35 < 1) → (26 < v44) → Ev l X M_Mo_isWord bc bs 21 [(0, .long j0), (2, .int 0), (3, .int (i3 + 1))] [] n F (ev_mq X Q))
    (k21_8 : (¬ v23 ≤ i3) → (¬ i2 = 0) → (¬ v35 < 1) → (¬ 26 < v44) → Ev l X M_Mo_isWord bc bs 21 [(0, .long j0), (2, .int 1), (3, .int (i3 + 1))] [] n F (ev_mq X Q)) :
    Ev l X M_Mo_isWord bc bs 21 [(0, .long j0), (2, .int i2), (3, .int i3)] [] n F (ev_mq X Q) := by
  refine ev_iload_n (pc := 21) d_Mo_isWord_21 rfl ?_
  refine ev_lload_n (pc := 22) d_Mo_isWord_22 rfl ?_
  refine ev_invokestatic (pc := 23) (As := [.long j0]) (st := [.int i3]) (Q2 := ev_pure (.int v23) n F) (bc1 := 0) (bs1 := 0) M_Mo_length d_Mo_isWord_23 lc_Mo_71 wd_992 rfl rfl (Nat.le_of_ble_eq_true rfl) (Nat.le_of_ble_eq_true rfl) (Nat.le_of_ble_eq_true rfl) (Nat.le_refl _) (Nat.le_refl _) c23_0 ?_
  refine ev_purek ?_
  refine ev_icmp_ge (pc := 26) 64 d_Mo_isWord_26 (by decide) (fun c26 => ?_) (fun c26 => ?_)
  · refine ev_iload_n (pc := 64) d_Mo_isWord_64 rfl ?_
    exact ev_ireturn (pc := 65) d_Mo_isWord_65 rfl (nr65_2 c26) (q65_1 c26)
  · refine ev_iload_n (pc := 29) d_Mo_isWord_29 rfl ?_
    refine ev_if_eq (pc := 30) 56 d_Mo_isWord_30 (by decide) (fun c30 => ?_) (fun c30 => ?_)
    · refine ev_iconst (pc := 56) 0 d_Mo_isWord_56 (by decide) ?_
      refine ev_istore_n (pc := 57) d_Mo_isWord_57 (Nat.le_of_ble_eq_true rfl) [1, 0, 2] rfl ?_
      refine ev_iinc (pc := 58) 2 1 d_Mo_isWord_58 rfl (by decide) (Nat.le_of_ble_eq_true rfl) [1, 2, 0] rfl ?_
      refine ev_goto (pc := 61) 21 d_Mo_isWord_61 (by decide) ?_
      exact (k21_3 c26 c30)
    · refine ev_lload_n (pc := 33) d_Mo_isWord_33 rfl ?_
      refine ev_iload_n (pc := 34) d_Mo_isWord_34 rfl ?_
      refine ev_invokestatic (pc := 35) (As := [.long j0, .int i3]) (st := []) (Q2 := ev_pure (.int v35) n F) (bc1 := 0) (bs1 := 0) M_Mo_letter d_Mo_isWord_35 lc_Mo_75 wd_995 rfl rfl (Nat.le_of_ble_eq_true rfl) (Nat.le_of_ble_eq_true rfl) (Nat.le_of_ble_eq_true rfl) (Nat.le_refl _) (Nat.le_refl _) (c35_4 c26 c30) ?_
      refine ev_purek ?_
      refine ev_iconst (pc := 38) 1 d_Mo_isWord_38 (by decide) ?_
      refine ev_icmp_lt (pc := 39) 56 d_Mo_isWord_39 (by decide) (fun c39 => ?_) (fun c39 => ?_)
      · refine ev_iconst (pc := 56) 0 d_Mo_isWord_56 (by decide) ?_
        refine ev_istore_n (pc := 57) d_Mo_isWord_57 (Nat.le_of_ble_eq_true rfl) [1, 0, 2] rfl ?_
        refine ev_iinc (pc := 58) 2 1 d_Mo_isWord_58 rfl (by decide) (Nat.le_of_ble_eq_true rfl) [1, 2, 0] rfl ?_
        refine ev_goto (pc := 61) 21 d_Mo_isWord_61 (by decide) ?_
        exact (k21_5 c26 c30 c39)
      · refine ev_lload_n (pc := 42) d_Mo_isWord_42 rfl ?_
        refine ev_iload_n (pc := 43) d_Mo_isWord_43 rfl ?_
        refine ev_invokestatic (pc := 44) (As := [.long j0, .int i3]) (st := []) (Q2 := ev_pure (.int v44) n F) (bc1 := 0) (bs1 := 0) M_Mo_letter d_Mo_isWord_44 lc_Mo_75 wd_995 rfl rfl (Nat.le_of_ble_eq_true rfl) (Nat.le_of_ble_eq_true rfl) (Nat.le_of_ble_eq_true rfl) (Nat.le_refl _) (Nat.le_refl _) (c44_6 c26 c30 c39) ?_
        refine ev_purek ?_
        refine ev_bipush (pc := 47) 26 d_Mo_isWord_47 (by decide) ?_
        refine ev_icmp_gt (pc := 49) 56 d_Mo_isWord_49 (by decide) (fun c49 => ?_) (fun c49 => ?_)
        · refine ev_iconst (pc := 56) 0 d_Mo_isWord_56 (by decide) ?_
          refine ev_istore_n (pc := 57) d_Mo_isWord_57 (Nat.le_of_ble_eq_true rfl) [1, 0, 2] rfl ?_
          refine ev_iinc (pc := 58) 2 1 d_Mo_isWord_58 rfl (by decide) (Nat.le_of_ble_eq_true rfl) [1, 2, 0] rfl ?_
          refine ev_goto (pc := 61) 21 d_Mo_isWord_61 (by decide) ?_
          exact (k21_7 c26 c30 c39 c49)
        · refine ev_iconst (pc := 52) 1 d_Mo_isWord_52 (by decide) ?_
          refine ev_goto (pc := 53) 57 d_Mo_isWord_53 (by decide) ?_
          refine ev_istore_n (pc := 57) d_Mo_isWord_57 (Nat.le_of_ble_eq_true rfl) [1, 0, 2] rfl ?_
          refine ev_iinc (pc := 58) 2 1 d_Mo_isWord_58 rfl (by decide) (Nat.le_of_ble_eq_true rfl) [1, 2, 0] rfl ?_
          refine ev_goto (pc := 61) 21 d_Mo_isWord_61 (by decide) ?_
          exact (k21_8 c26 c30 c39 c49)
set_option maxRecDepth 100000 in
set_option maxHeartbeats 4000000 in
theorem s_Mo_first_0 {l : Launch} {X : ev_X} {bc bs n : Nat} {F : ev_H} {Q : Option Value → Nat → ev_H → Prop} {j0 : Int64} {i2 : Int32} 
    (q9_0 : Q (some (.long (j0 &&& (((1 : Int64) <<< ((5 * i2).toInt64 &&& 63)) - 1)))) n F) :
    Ev l X M_Mo_first bc bs 0 [(0, .long j0), (2, .int i2)] [] n F (ev_mq X Q) := by
  refine ev_lload_n (pc := 0) d_Mo_first_0 rfl ?_
  refine ev_lconst (pc := 1) 1 d_Mo_first_1 (by decide) ?_
  refine ev_iconst (pc := 2) 5 d_Mo_first_2 (by decide) ?_
  refine ev_iload_n (pc := 3) d_Mo_first_3 rfl ?_
  refine ev_imul (pc := 4) d_Mo_first_4 ?_
  refine ev_lshl (pc := 5) d_Mo_first_5 ?_
  refine ev_lconst (pc := 6) 1 d_Mo_first_6 (by decide) ?_
  refine ev_lsub (pc := 7) d_Mo_first_7 ?_
  refine ev_land (pc := 8) d_Mo_first_8 ?_
  exact ev_lreturn (pc := 9) d_Mo_first_9 rfl q9_0
set_option maxRecDepth 100000 in
set_option maxHeartbeats 4000000 in
theorem s_Mo_measure_0 {l : Launch} {X : ev_X} {bc bs n : Nat} {F : ev_H} {Q : Option Value → Nat → ev_H → Prop} {j0 : Int64} {i2 : Int32} 
    (k5_0 : Ev l X M_Mo_measure bc bs 5 [(0, .long j0), (2, .int i2), (3, .int 0), (4, .int 0)] [] n F (ev_mq X Q)) :
    Ev l X M_Mo_measure bc bs 0 [(0, .long j0), (2, .int i2)] [] n F (ev_mq X Q) := by
  refine ev_iconst (pc := 0) 0 d_Mo_measure_0 (by decide) ?_
  refine ev_istore_n (pc := 1) d_Mo_measure_1 (Nat.le_of_ble_eq_true rfl) [1, 2, 0] rfl ?_
  refine ev_iconst (pc := 2) 0 d_Mo_measure_2 (by decide) ?_
  refine ev_istore (pc := 3) d_Mo_measure_3 (Nat.le_of_ble_eq_true rfl) [1, 2, 3, 0] rfl ?_
  exact k5_0

set_option maxRecDepth 100000 in
set_option maxHeartbeats 4000000 in
theorem s_Mo_measure_5 {l : Launch} {X : ev_X} {bc bs n : Nat} {F : ev_H} {Q : Option Value → Nat → ev_H → Prop} {j0 : Int64} {i2 : Int32} {i3 : Int32} {i4 : Int32} {v16 : Int32} {v27 : Int32} 
    (q48_0 : (i2 ≤ (i4 + 1)) → Q (some (.int i3)) n F)
    (c16_1 : (¬ i2 ≤ (i4 + 1)) → Cal l X M_Mo_isVowel 0 0 [.long j0, .int i4] n F (ev_pure (.int v16) n F))
    (k5_2 : (¬ i2 ≤ (i4 + 1)) → (v16 = 0) → Ev l X M_Mo_measure bc bs 5 [(0, .long j0), (2, .int i2), (3, .int i3), (4, .int (i4 + 1))] [] n F (ev_mq X Q))
    (c27_3 : (¬ i2 ≤ (i4 + 1)) → (¬ v16 = 0) → Cal l X M_Mo_isVowel 0 0 [.long j0, .int (i4 + 1)] n F (ev_pure (.int v27) n F))
    (k5_4 : (¬ i2 ≤ (i4 + 1)) → (¬ v16 = 0) → (¬ v27 = 0) → Ev l X M_Mo_measure bc bs 5 [(0, .long j0), (2, .int i2), (3, .int i3), (4, .int (i4 + 1))] [] n F (ev_mq X Q))
    (k5_5 : (¬ i2 ≤ (i4 + 1)) → (¬ v16 = 0) → (v27 = 0) → Ev l X M_Mo_measure bc bs 5 [(0, .long j0), (2, .int i2), (3, .int (i3 + 1)), (4, .int (i4 + 1))] [] n F (ev_mq X Q)) :
    Ev l X M_Mo_measure bc bs 5 [(0, .long j0), (2, .int i2), (3, .int i3), (4, .int i4)] [] n F (ev_mq X Q) := by
  refine ev_iload (pc := 5) d_Mo_measure_5 rfl ?_
  refine ev_iconst (pc := 7) 1 d_Mo_measure_7 (by decide) ?_
  refine ev_iadd (pc := 8) d_Mo_measure_8 ?_
  refine ev_iload_n (pc := 9) d_Mo_measure_9 rfl ?_
  refine ev_icmp_ge (pc := 10) 47 d_Mo_measure_10 (by decide) (fun c10 => ?_) (fun c10 => ?_)
  · refine ev_iload_n (pc := 47) d_Mo_measure_47 rfl ?_
    exact ev_ireturn (pc := 48) d_Mo_measure_48 rfl rfl (q48_0 c10)
  · refine ev_lload_n (pc := 13) d_Mo_measure_13 rfl ?_
    refine ev_iload (pc := 14) d_Mo_measure_14 rfl ?_
    refine ev_invokestatic (pc := 16) (As := [.long j0, .int i4]) (st := []) (Q2 := ev_pure (.int v16) n F) (bc1 := 0) (bs1 := 0) M_Mo_isVowel d_Mo_measure_16 lc_Mo_79 wd_1023 rfl rfl (Nat.le_of_ble_eq_true rfl) (Nat.le_of_ble_eq_true rfl) (Nat.le_of_ble_eq_true rfl) (Nat.le_refl _) (Nat.le_refl _) (c16_1 c10) ?_
    refine ev_purek ?_
    refine ev_if_eq (pc := 19) 39 d_Mo_measure_19 (by decide) (fun c19 => ?_) (fun c19 => ?_)
    · refine ev_iload_n (pc := 39) d_Mo_measure_39 rfl ?_
      refine ev_istore_n (pc := 40) d_Mo_measure_40 (Nat.le_of_ble_eq_true rfl) [1, 2, 0, 3] rfl ?_
      refine ev_iinc (pc := 41) 3 1 d_Mo_measure_41 rfl (by decide) (Nat.le_of_ble_eq_true rfl) [1, 2, 3, 0] rfl ?_
      refine ev_goto (pc := 44) 5 d_Mo_measure_44 (by decide) ?_
      exact (k5_2 c10 c19)
    · refine ev_lload_n (pc := 22) d_Mo_measure_22 rfl ?_
      refine ev_iload (pc := 23) d_Mo_measure_23 rfl ?_
      refine ev_iconst (pc := 25) 1 d_Mo_measure_25 (by decide) ?_
      refine ev_iadd (pc := 26) d_Mo_measure_26 ?_
      refine ev_invokestatic (pc := 27) (As := [.long j0, .int (i4 + 1)]) (st := []) (Q2 := ev_pure (.int v27) n F) (bc1 := 0) (bs1 := 0) M_Mo_isVowel d_Mo_measure_27 lc_Mo_79 wd_1023 rfl rfl (Nat.le_of_ble_eq_true rfl) (Nat.le_of_ble_eq_true rfl) (Nat.le_of_ble_eq_true rfl) (Nat.le_refl _) (Nat.le_refl _) (c27_3 c10 c19) ?_
      refine ev_purek ?_
      refine ev_if_ne (pc := 30) 39 d_Mo_measure_30 (by decide) (fun c30 => ?_) (fun c30 => ?_)
      · refine ev_iload_n (pc := 39) d_Mo_measure_39 rfl ?_
        refine ev_istore_n (pc := 40) d_Mo_measure_40 (Nat.le_of_ble_eq_true rfl) [1, 2, 0, 3] rfl ?_
        refine ev_iinc (pc := 41) 3 1 d_Mo_measure_41 rfl (by decide) (Nat.le_of_ble_eq_true rfl) [1, 2, 3, 0] rfl ?_
        refine ev_goto (pc := 44) 5 d_Mo_measure_44 (by decide) ?_
        exact (k5_4 c10 c19 c30)
      · refine ev_iload_n (pc := 33) d_Mo_measure_33 rfl ?_
        refine ev_iconst (pc := 34) 1 d_Mo_measure_34 (by decide) ?_
        refine ev_iadd (pc := 35) d_Mo_measure_35 ?_
        refine ev_goto (pc := 36) 40 d_Mo_measure_36 (by decide) ?_
        refine ev_istore_n (pc := 40) d_Mo_measure_40 (Nat.le_of_ble_eq_true rfl) [1, 2, 0, 3] rfl ?_
        refine ev_iinc (pc := 41) 3 1 d_Mo_measure_41 rfl (by decide) (Nat.le_of_ble_eq_true rfl) [1, 2, 3, 0] rfl ?_
        refine ev_goto (pc := 44) 5 d_Mo_measure_44 (by decide) ?_
        exact (k5_5 c10 c19 c30)
set_option maxRecDepth 100000 in
set_option maxHeartbeats 4000000 in
theorem s_Mo_someVowel_0 {l : Launch} {X : ev_X} {bc bs n : Nat} {F : ev_H} {Q : Option Value → Nat → ev_H → Prop} {j0 : Int64} {i2 : Int32} 
    (k5_0 : Ev l X M_Mo_someVowel bc bs 5 [(0, .long j0), (2, .int i2), (3, .int 0), (4, .int 0)] [] n F (ev_mq X Q)) :
    Ev l X M_Mo_someVowel bc bs 0 [(0, .long j0), (2, .int i2)] [] n F (ev_mq X Q) := by
  refine ev_iconst (pc := 0) 0 d_Mo_someVowel_0 (by decide) ?_
  refine ev_istore_n (pc := 1) d_Mo_someVowel_1 (Nat.le_of_ble_eq_true rfl) [1, 2, 0] rfl ?_
  refine ev_iconst (pc := 2) 0 d_Mo_someVowel_2 (by decide) ?_
  refine ev_istore (pc := 3) d_Mo_someVowel_3 (Nat.le_of_ble_eq_true rfl) [1, 2, 3, 0] rfl ?_
  exact k5_0

set_option maxRecDepth 100000 in
set_option maxHeartbeats 4000000 in
theorem s_Mo_someVowel_5 {l : Launch} {X : ev_X} {bc bs n : Nat} {F : ev_H} {Q : Option Value → Nat → ev_H → Prop} {j0 : Int64} {i2 : Int32} {i3 : Int32} {i4 : Int32} {v18 : Int32} 
    (q37_0 : (i2 ≤ i4) → Q (some (.int i3)) n F)
    (nr37_1 : (i2 ≤ i4) → narrow .boolean (.int i3) = .int i3)
    (k5_2 : (¬ i2 ≤ i4) → (¬ i3 = 0) → Ev l X M_Mo_someVowel bc bs 5 [(0, .long j0), (2, .int i2), (3, .int 1), (4, .int (i4 + 1))] [] n F (ev_mq X Q))
    (c18_3 : (¬ i2 ≤ i4) → (i3 = 0) → Cal l X M_Mo_isVowel 0 0 [.long j0, .int i4] n F (ev_pure (.int v18) n F))
    (k5_4 : (¬ i2 ≤ i4) → (i3 = 0) → (v18 = 0) → Ev l X M_Mo_someVowel bc bs 5 [(0, .long j0), (2, .int i2), (3, .int 0), (4, .int (i4 + 1))] [] n F (ev_mq X Q))
    (k5_5 : (¬ i2 ≤ i4) → (i3 = 0) → (¬ v18 = 0) → Ev l X M_Mo_someVowel bc bs 5 [(0, .long j0), (2, .int i2), (3, .int 1), (4, .int (i4 + 1))] [] n F (ev_mq X Q)) :
    Ev l X M_Mo_someVowel bc bs 5 [(0, .long j0), (2, .int i2), (3, .int i3), (4, .int i4)] [] n F (ev_mq X Q) := by
  refine ev_iload (pc := 5) d_Mo_someVowel_5 rfl ?_
  refine ev_iload_n (pc := 7) d_Mo_someVowel_7 rfl ?_
  refine ev_icmp_ge (pc := 8) 36 d_Mo_someVowel_8 (by decide) (fun c8 => ?_) (fun c8 => ?_)
  · refine ev_iload_n (pc := 36) d_Mo_someVowel_36 rfl ?_
    exact ev_ireturn (pc := 37) d_Mo_someVowel_37 rfl (nr37_1 c8) (q37_0 c8)
  · refine ev_iload_n (pc := 11) d_Mo_someVowel_11 rfl ?_
    refine ev_if_ne (pc := 12) 24 d_Mo_someVowel_12 (by decide) (fun c12 => ?_) (fun c12 => ?_)
    · refine ev_iconst (pc := 24) 1 d_Mo_someVowel_24 (by decide) ?_
      refine ev_goto (pc := 25) 29 d_Mo_someVowel_25 (by decide) ?_
      refine ev_istore_n (pc := 29) d_Mo_someVowel_29 (Nat.le_of_ble_eq_true rfl) [1, 2, 0, 3] rfl ?_
      refine ev_iinc (pc := 30) 3 1 d_Mo_someVowel_30 rfl (by decide) (Nat.le_of_ble_eq_true rfl) [1, 2, 3, 0] rfl ?_
      refine ev_goto (pc := 33) 5 d_Mo_someVowel_33 (by decide) ?_
      exact (k5_2 c8 c12)
    · refine ev_lload_n (pc := 15) d_Mo_someVowel_15 rfl ?_
      refine ev_iload (pc := 16) d_Mo_someVowel_16 rfl ?_
      refine ev_invokestatic (pc := 18) (As := [.long j0, .int i4]) (st := []) (Q2 := ev_pure (.int v18) n F) (bc1 := 0) (bs1 := 0) M_Mo_isVowel d_Mo_someVowel_18 lc_Mo_79 wd_1023 rfl rfl (Nat.le_of_ble_eq_true rfl) (Nat.le_of_ble_eq_true rfl) (Nat.le_of_ble_eq_true rfl) (Nat.le_refl _) (Nat.le_refl _) (c18_3 c8 c12) ?_
      refine ev_purek ?_
      refine ev_if_eq (pc := 21) 28 d_Mo_someVowel_21 (by decide) (fun c21 => ?_) (fun c21 => ?_)
      · refine ev_iconst (pc := 28) 0 d_Mo_someVowel_28 (by decide) ?_
        refine ev_istore_n (pc := 29) d_Mo_someVowel_29 (Nat.le_of_ble_eq_true rfl) [1, 2, 0, 3] rfl ?_
        refine ev_iinc (pc := 30) 3 1 d_Mo_someVowel_30 rfl (by decide) (Nat.le_of_ble_eq_true rfl) [1, 2, 3, 0] rfl ?_
        refine ev_goto (pc := 33) 5 d_Mo_someVowel_33 (by decide) ?_
        exact (k5_4 c8 c12 c21)
      · refine ev_iconst (pc := 24) 1 d_Mo_someVowel_24 (by decide) ?_
        refine ev_goto (pc := 25) 29 d_Mo_someVowel_25 (by decide) ?_
        refine ev_istore_n (pc := 29) d_Mo_someVowel_29 (Nat.le_of_ble_eq_true rfl) [1, 2, 0, 3] rfl ?_
        refine ev_iinc (pc := 30) 3 1 d_Mo_someVowel_30 rfl (by decide) (Nat.le_of_ble_eq_true rfl) [1, 2, 3, 0] rfl ?_
        refine ev_goto (pc := 33) 5 d_Mo_someVowel_33 (by decide) ?_
        exact (k5_5 c8 c12 c21)
set_option maxRecDepth 100000 in
set_option maxHeartbeats 4000000 in
theorem s_Mo_text_0 {l : Launch} {X : ev_X} {bc bs n : Nat} {F : ev_H} {Q : Option Value → Nat → ev_H → Prop} {i0 : Int32} {i1 : Int32} {i2 : Int32} {i3 : Int32} 
    (q19_0 : Q (some (.long (((i0.toInt64 ||| (i1.toInt64 <<< ((5 : Int32).toInt64 &&& 63))) ||| (i2.toInt64 <<< ((10 : Int32).toInt64 &&& 63))) ||| (i3.toInt64 <<< ((15 : Int32).toInt64 &&& 63))))) n F) :
    Ev l X M_Mo_text bc bs 0 [(0, .int i0), (1, .int i1), (2, .int i2), (3, .int i3)] [] n F (ev_mq X Q) := by
  refine ev_iload_n (pc := 0) d_Mo_text_0 rfl ?_
  refine ev_i2l (pc := 1) d_Mo_text_1 ?_
  refine ev_iload_n (pc := 2) d_Mo_text_2 rfl ?_
  refine ev_i2l (pc := 3) d_Mo_text_3 ?_
  refine ev_iconst (pc := 4) 5 d_Mo_text_4 (by decide) ?_
  refine ev_lshl (pc := 5) d_Mo_text_5 ?_
  refine ev_lor (pc := 6) d_Mo_text_6 ?_
  refine ev_iload_n (pc := 7) d_Mo_text_7 rfl ?_
  refine ev_i2l (pc := 8) d_Mo_text_8 ?_
  refine ev_bipush (pc := 9) 10 d_Mo_text_9 (by decide) ?_
  refine ev_lshl (pc := 11) d_Mo_text_11 ?_
  refine ev_lor (pc := 12) d_Mo_text_12 ?_
  refine ev_iload_n (pc := 13) d_Mo_text_13 rfl ?_
  refine ev_i2l (pc := 14) d_Mo_text_14 ?_
  refine ev_bipush (pc := 15) 15 d_Mo_text_15 (by decide) ?_
  refine ev_lshl (pc := 17) d_Mo_text_17 ?_
  refine ev_lor (pc := 18) d_Mo_text_18 ?_
  exact ev_lreturn (pc := 19) d_Mo_text_19 rfl q19_0
set_option maxRecDepth 100000 in
set_option maxHeartbeats 4000000 in
theorem s_Mo_ends_0 {l : Launch} {X : ev_X} {bc bs n : Nat} {F : ev_H} {Q : Option Value → Nat → ev_H → Prop} {j0 : Int64} {j2 : Int64} {v1 : Int32} {v5 : Int32} 
    (c1_0 : Cal l X M_Mo_length 0 0 [.long j0] n F (ev_pure (.int v1) n F))
    (c5_1 : Cal l X M_Mo_length 0 0 [.long j2] n F (ev_pure (.int v5) n F))
    (q32_2 : ((v1 - v5) < 0) → Q (some (.int 0)) n F)
    (q32_3 : (¬ (v1 - v5) < 0) → (¬ (lg_cmp (j0 >>> ((5 * (v1 - v5)).toInt64 &&& 63)) j2) = 0) → Q (some (.int 0)) n F)
    (q32_4 : (¬ (v1 - v5) < 0) → ((lg_cmp (j0 >>> ((5 * (v1 - v5)).toInt64 &&& 63)) j2) = 0) → Q (some (.int 1)) n F) :
    Ev l X M_Mo_ends bc bs 0 [(0, .long j0), (2, .long j2)] [] n F (ev_mq X Q) := by
  refine ev_lload_n (pc := 0) d_Mo_ends_0 rfl ?_
  refine ev_invokestatic (pc := 1) (As := [.long j0]) (st := []) (Q2 := ev_pure (.int v1) n F) (bc1 := 0) (bs1 := 0) M_Mo_length d_Mo_ends_1 lc_Mo_71 wd_992 rfl rfl (Nat.le_of_ble_eq_true rfl) (Nat.le_of_ble_eq_true rfl) (Nat.le_of_ble_eq_true rfl) (Nat.le_refl _) (Nat.le_refl _) c1_0 ?_
  refine ev_purek ?_
  refine ev_lload_n (pc := 4) d_Mo_ends_4 rfl ?_
  refine ev_invokestatic (pc := 5) (As := [.long j2]) (st := [.int v1]) (Q2 := ev_pure (.int v5) n F) (bc1 := 0) (bs1 := 0) M_Mo_length d_Mo_ends_5 lc_Mo_71 wd_992 rfl rfl (Nat.le_of_ble_eq_true rfl) (Nat.le_of_ble_eq_true rfl) (Nat.le_of_ble_eq_true rfl) (Nat.le_refl _) (Nat.le_refl _) c5_1 ?_
  refine ev_purek ?_
  refine ev_isub (pc := 8) d_Mo_ends_8 ?_
  refine ev_istore (pc := 9) d_Mo_ends_9 (Nat.le_of_ble_eq_true rfl) [1, 2, 0] rfl ?_
  refine ev_iload (pc := 11) d_Mo_ends_11 rfl ?_
  refine ev_if_lt (pc := 13) 31 d_Mo_ends_13 (by decide) (fun c13 => ?_) (fun c13 => ?_)
  · refine ev_iconst (pc := 31) 0 d_Mo_ends_31 (by decide) ?_
    exact ev_ireturn (pc := 32) d_Mo_ends_32 rfl rfl (q32_2 c13)
  · refine ev_lload_n (pc := 16) d_Mo_ends_16 rfl ?_
    refine ev_iconst (pc := 17) 5 d_Mo_ends_17 (by decide) ?_
    refine ev_iload (pc := 18) d_Mo_ends_18 rfl ?_
    refine ev_imul (pc := 20) d_Mo_ends_20 ?_
    refine ev_lshr (pc := 21) d_Mo_ends_21 ?_
    refine ev_lload_n (pc := 22) d_Mo_ends_22 rfl ?_
    refine ev_lcmp (pc := 23) d_Mo_ends_23 ?_
    refine ev_if_ne (pc := 24) 31 d_Mo_ends_24 (by decide) (fun c24 => ?_) (fun c24 => ?_)
    · refine ev_iconst (pc := 31) 0 d_Mo_ends_31 (by decide) ?_
      exact ev_ireturn (pc := 32) d_Mo_ends_32 rfl rfl (q32_3 c13 c24)
    · refine ev_iconst (pc := 27) 1 d_Mo_ends_27 (by decide) ?_
      refine ev_goto (pc := 28) 32 d_Mo_ends_28 (by decide) ?_
      exact ev_ireturn (pc := 32) d_Mo_ends_32 rfl rfl (q32_4 c13 c24)
set_option maxRecDepth 100000 in
set_option maxHeartbeats 4000000 in
theorem s_Mo_without_0 {l : Launch} {X : ev_X} {bc bs n : Nat} {F : ev_H} {Q : Option Value → Nat → ev_H → Prop} {j0 : Int64} {i2 : Int32} {v2 : Int32} {v7 : Int64} 
    (c2_0 : Cal l X M_Mo_length 0 0 [.long j0] n F (ev_pure (.int v2) n F))
    (c7_1 : Cal l X M_Mo_first 0 0 [.long j0, .int (v2 - i2)] n F (ev_pure (.long v7) n F))
    (q10_2 : Q (some (.long v7)) n F) :
    Ev l X M_Mo_without bc bs 0 [(0, .long j0), (2, .int i2)] [] n F (ev_mq X Q) := by
  refine ev_lload_n (pc := 0) d_Mo_without_0 rfl ?_
  refine ev_lload_n (pc := 1) d_Mo_without_1 rfl ?_
  refine ev_invokestatic (pc := 2) (As := [.long j0]) (st := [.long j0]) (Q2 := ev_pure (.int v2) n F) (bc1 := 0) (bs1 := 0) M_Mo_length d_Mo_without_2 lc_Mo_71 wd_992 rfl rfl (Nat.le_of_ble_eq_true rfl) (Nat.le_of_ble_eq_true rfl) (Nat.le_of_ble_eq_true rfl) (Nat.le_refl _) (Nat.le_refl _) c2_0 ?_
  refine ev_purek ?_
  refine ev_iload_n (pc := 5) d_Mo_without_5 rfl ?_
  refine ev_isub (pc := 6) d_Mo_without_6 ?_
  refine ev_invokestatic (pc := 7) (As := [.long j0, .int (v2 - i2)]) (st := []) (Q2 := ev_pure (.long v7) n F) (bc1 := 0) (bs1 := 0) M_Mo_first d_Mo_without_7 lc_Mo_83 wd_1014 rfl rfl (Nat.le_of_ble_eq_true rfl) (Nat.le_of_ble_eq_true rfl) (Nat.le_of_ble_eq_true rfl) (Nat.le_refl _) (Nat.le_refl _) c7_1 ?_
  refine ev_purek ?_
  exact ev_lreturn (pc := 10) d_Mo_without_10 rfl q10_2
set_option maxRecDepth 100000 in
set_option maxHeartbeats 4000000 in
theorem s_Mo_isStop_0 {l : Launch} {X : ev_X} {bc bs n : Nat} {F : ev_H} {Q : Option Value → Nat → ev_H → Prop} {j0 : Int64} {v6 : Int64} {v20 : Int64} {v34 : Int64} {v48 : Int64} {v62 : Int64} 
    (c6_0 : Cal l X M_Mo_text 0 0 [.int 1, .int 14, .int 0, .int 0] n F (ev_pure (.long v6) n F))
    (k69_1 : ((lg_cmp j0 v6) = 0) → Ev l X M_Mo_isStop bc bs 69 [(0, .long j0)] [] n F (ev_mq X Q))
    (c20_2 : (¬ (lg_cmp j0 v6) = 0) → Cal l X M_Mo_text 0 0 [.int 9, .int 14, .int 0, .int 0] n F (ev_pure (.long v20) n F))
    (k69_3 : (¬ (lg_cmp j0 v6) = 0) → ((lg_cmp j0 v20) = 0) → Ev l X M_Mo_isStop bc bs 69 [(0, .long j0)] [] n F (ev_mq X Q))
    (c34_4 : (¬ (lg_cmp j0 v6) = 0) → (¬ (lg_cmp j0 v20) = 0) → Cal l X M_Mo_text 0 0 [.int 15, .int 6, .int 0, .int 0] n F (ev_pure (.long v34) n F))
    (k69_5 : (¬ (lg_cmp j0 v6) = 0) → (¬ (lg_cmp j0 v20) = 0) → ((lg_cmp j0 v34) = 0) → Ev l X M_Mo_isStop bc bs 69 [(0, .long j0)] [] n F (ev_mq X Q))
    (c48_6 : (¬ (lg_cmp j0 v6) = 0) → (¬ (lg_cmp j0 v20) = 0) → (¬ (lg_cmp j0 v34) = 0) → Cal l X M_Mo_text 0 0 [.int 15, .int 18, .int 0, .int 0] n F (ev_pure (.long v48) n F))
    (k69_7 : (¬ (lg_cmp j0 v6) = 0) → (¬ (lg_cmp j0 v20) = 0) → (¬ (lg_cmp j0 v34) = 0) → ((lg_cmp j0 v48) = 0) → Ev l X M_Mo_isStop bc bs 69 [(0, .long j0)] [] n F (ev_mq X Q))
    (c62_8 : (¬ (lg_cmp j0 v6) = 0) → (¬ (lg_cmp j0 v20) = 0) → (¬ (lg_cmp j0 v34) = 0) → (¬ (lg_cmp j0 v48) = 0) → Cal l X M_Mo_text 0 0 [.int 20, .int 15, .int 0, .int 0] n F (ev_pure (.long v62) n F))
    (k74_9 : (¬ (lg_cmp j0 v6) = 0) → (¬ (lg_cmp j0 v20) = 0) → (¬ (lg_cmp j0 v34) = 0) → (¬ (lg_cmp j0 v48) = 0) → (¬ (lg_cmp j0 v62) = 0) → Ev l X M_Mo_isStop bc bs 74 [(0, .long j0)] [.int 0] n F (ev_mq X Q))
    (k69_10 : (¬ (lg_cmp j0 v6) = 0) → (¬ (lg_cmp j0 v20) = 0) → (¬ (lg_cmp j0 v34) = 0) → (¬ (lg_cmp j0 v48) = 0) → ((lg_cmp j0 v62) = 0) → Ev l X M_Mo_isStop bc bs 69 [(0, .long j0)] [] n F (ev_mq X Q)) :
    Ev l X M_Mo_isStop bc bs 0 [(0, .long j0)] [] n F (ev_mq X Q) := by
  refine ev_lload_n (pc := 0) d_Mo_isStop_0 rfl ?_
  refine ev_iconst (pc := 1) 1 d_Mo_isStop_1 (by decide) ?_
  refine ev_bipush (pc := 2) 14 d_Mo_isStop_2 (by decide) ?_
  refine ev_iconst (pc := 4) 0 d_Mo_isStop_4 (by decide) ?_
  refine ev_iconst (pc := 5) 0 d_Mo_isStop_5 (by decide) ?_
  refine ev_invokestatic (pc := 6) (As := [.int 1, .int 14, .int 0, .int 0]) (st := [.long j0]) (Q2 := ev_pure (.long v6) n F) (bc1 := 0) (bs1 := 0) M_Mo_text d_Mo_isStop_6 lc_Mo_87 wd_1005 rfl rfl (Nat.le_of_ble_eq_true rfl) (Nat.le_of_ble_eq_true rfl) (Nat.le_of_ble_eq_true rfl) (Nat.le_refl _) (Nat.le_refl _) c6_0 ?_
  refine ev_purek ?_
  refine ev_lcmp (pc := 9) d_Mo_isStop_9 ?_
  refine ev_if_eq (pc := 10) 69 d_Mo_isStop_10 (by decide) (fun c10 => ?_) (fun c10 => ?_)
  · exact (k69_1 c10)
  · refine ev_lload_n (pc := 13) d_Mo_isStop_13 rfl ?_
    refine ev_bipush (pc := 14) 9 d_Mo_isStop_14 (by decide) ?_
    refine ev_bipush (pc := 16) 14 d_Mo_isStop_16 (by decide) ?_
    refine ev_iconst (pc := 18) 0 d_Mo_isStop_18 (by decide) ?_
    refine ev_iconst (pc := 19) 0 d_Mo_isStop_19 (by decide) ?_
    refine ev_invokestatic (pc := 20) (As := [.int 9, .int 14, .int 0, .int 0]) (st := [.long j0]) (Q2 := ev_pure (.long v20) n F) (bc1 := 0) (bs1 := 0) M_Mo_text d_Mo_isStop_20 lc_Mo_87 wd_1005 rfl rfl (Nat.le_of_ble_eq_true rfl) (Nat.le_of_ble_eq_true rfl) (Nat.le_of_ble_eq_true rfl) (Nat.le_refl _) (Nat.le_refl _) (c20_2 c10) ?_
    refine ev_purek ?_
    refine ev_lcmp (pc := 23) d_Mo_isStop_23 ?_
    refine ev_if_eq (pc := 24) 69 d_Mo_isStop_24 (by decide) (fun c24 => ?_) (fun c24 => ?_)
    · exact (k69_3 c10 c24)
    · refine ev_lload_n (pc := 27) d_Mo_isStop_27 rfl ?_
      refine ev_bipush (pc := 28) 15 d_Mo_isStop_28 (by decide) ?_
      refine ev_bipush (pc := 30) 6 d_Mo_isStop_30 (by decide) ?_
      refine ev_iconst (pc := 32) 0 d_Mo_isStop_32 (by decide) ?_
      refine ev_iconst (pc := 33) 0 d_Mo_isStop_33 (by decide) ?_
      refine ev_invokestatic (pc := 34) (As := [.int 15, .int 6, .int 0, .int 0]) (st := [.long j0]) (Q2 := ev_pure (.long v34) n F) (bc1 := 0) (bs1 := 0) M_Mo_text d_Mo_isStop_34 lc_Mo_87 wd_1005 rfl rfl (Nat.le_of_ble_eq_true rfl) (Nat.le_of_ble_eq_true rfl) (Nat.le_of_ble_eq_true rfl) (Nat.le_refl _) (Nat.le_refl _) (c34_4 c10 c24) ?_
      refine ev_purek ?_
      refine ev_lcmp (pc := 37) d_Mo_isStop_37 ?_
      refine ev_if_eq (pc := 38) 69 d_Mo_isStop_38 (by decide) (fun c38 => ?_) (fun c38 => ?_)
      · exact (k69_5 c10 c24 c38)
      · refine ev_lload_n (pc := 41) d_Mo_isStop_41 rfl ?_
        refine ev_bipush (pc := 42) 15 d_Mo_isStop_42 (by decide) ?_
        refine ev_bipush (pc := 44) 18 d_Mo_isStop_44 (by decide) ?_
        refine ev_iconst (pc := 46) 0 d_Mo_isStop_46 (by decide) ?_
        refine ev_iconst (pc := 47) 0 d_Mo_isStop_47 (by decide) ?_
        refine ev_invokestatic (pc := 48) (As := [.int 15, .int 18, .int 0, .int 0]) (st := [.long j0]) (Q2 := ev_pure (.long v48) n F) (bc1 := 0) (bs1 := 0) M_Mo_text d_Mo_isStop_48 lc_Mo_87 wd_1005 rfl rfl (Nat.le_of_ble_eq_true rfl) (Nat.le_of_ble_eq_true rfl) (Nat.le_of_ble_eq_true rfl) (Nat.le_refl _) (Nat.le_refl _) (c48_6 c10 c24 c38) ?_
        refine ev_purek ?_
        refine ev_lcmp (pc := 51) d_Mo_isStop_51 ?_
        refine ev_if_eq (pc := 52) 69 d_Mo_isStop_52 (by decide) (fun c52 => ?_) (fun c52 => ?_)
        · exact (k69_7 c10 c24 c38 c52)
        · refine ev_lload_n (pc := 55) d_Mo_isStop_55 rfl ?_
          refine ev_bipush (pc := 56) 20 d_Mo_isStop_56 (by decide) ?_
          refine ev_bipush (pc := 58) 15 d_Mo_isStop_58 (by decide) ?_
          refine ev_iconst (pc := 60) 0 d_Mo_isStop_60 (by decide) ?_
          refine ev_iconst (pc := 61) 0 d_Mo_isStop_61 (by decide) ?_
          refine ev_invokestatic (pc := 62) (As := [.int 20, .int 15, .int 0, .int 0]) (st := [.long j0]) (Q2 := ev_pure (.long v62) n F) (bc1 := 0) (bs1 := 0) M_Mo_text d_Mo_isStop_62 lc_Mo_87 wd_1005 rfl rfl (Nat.le_of_ble_eq_true rfl) (Nat.le_of_ble_eq_true rfl) (Nat.le_of_ble_eq_true rfl) (Nat.le_refl _) (Nat.le_refl _) (c62_8 c10 c24 c38 c52) ?_
          refine ev_purek ?_
          refine ev_lcmp (pc := 65) d_Mo_isStop_65 ?_
          refine ev_if_ne (pc := 66) 73 d_Mo_isStop_66 (by decide) (fun c66 => ?_) (fun c66 => ?_)
          · refine ev_iconst (pc := 73) 0 d_Mo_isStop_73 (by decide) ?_
            exact (k74_9 c10 c24 c38 c52 c66)
          · exact (k69_10 c10 c24 c38 c52 c66)

set_option maxRecDepth 100000 in
set_option maxHeartbeats 4000000 in
theorem s_Mo_isStop_69 {l : Launch} {X : ev_X} {bc bs n : Nat} {F : ev_H} {Q : Option Value → Nat → ev_H → Prop} {j0 : Int64} 
    (k74_0 : Ev l X M_Mo_isStop bc bs 74 [(0, .long j0)] [.int 1] n F (ev_mq X Q)) :
    Ev l X M_Mo_isStop bc bs 69 [(0, .long j0)] [] n F (ev_mq X Q) := by
  refine ev_iconst (pc := 69) 1 d_Mo_isStop_69 (by decide) ?_
  refine ev_goto (pc := 70) 74 d_Mo_isStop_70 (by decide) ?_
  exact k74_0

set_option maxRecDepth 100000 in
set_option maxHeartbeats 4000000 in
theorem s_Mo_isStop_74 {l : Launch} {X : ev_X} {bc bs n : Nat} {F : ev_H} {Q : Option Value → Nat → ev_H → Prop} {j0 : Int64} {is0 : Int32} {v91 : Int64} {v105 : Int64} 
    (k112_0 : ((lg_cmp j0 1) = 0) → Ev l X M_Mo_isStop bc bs 112 [(0, .long j0), (2, .int is0)] [] n F (ev_mq X Q))
    (k112_1 : (¬ (lg_cmp j0 1) = 0) → (¬ is0 = 0) → Ev l X M_Mo_isStop bc bs 112 [(0, .long j0), (2, .int is0)] [] n F (ev_mq X Q))
    (c91_2 : (¬ (lg_cmp j0 1) = 0) → (is0 = 0) → Cal l X M_Mo_text 0 0 [.int 1, .int 14, .int 4, .int 0] n F (ev_pure (.long v91) n F))
    (k112_3 : (¬ (lg_cmp j0 1) = 0) → (is0 = 0) → ((lg_cmp j0 v91) = 0) → Ev l X M_Mo_isStop bc bs 112 [(0, .long j0), (2, .int is0)] [] n F (ev_mq X Q))
    (c105_4 : (¬ (lg_cmp j0 1) = 0) → (is0 = 0) → (¬ (lg_cmp j0 v91) = 0) → Cal l X M_Mo_text 0 0 [.int 20, .int 8, .int 5, .int 0] n F (ev_pure (.long v105) n F))
    (k117_5 : (¬ (lg_cmp j0 1) = 0) → (is0 = 0) → (¬ (lg_cmp j0 v91) = 0) → (¬ (lg_cmp j0 v105) = 0) → Ev l X M_Mo_isStop bc bs 117 [(0, .long j0), (2, .int is0)] [.int 0] n F (ev_mq X Q))
    (k112_6 : (¬ (lg_cmp j0 1) = 0) → (is0 = 0) → (¬ (lg_cmp j0 v91) = 0) → ((lg_cmp j0 v105) = 0) → Ev l X M_Mo_isStop bc bs 112 [(0, .long j0), (2, .int is0)] [] n F (ev_mq X Q)) :
    Ev l X M_Mo_isStop bc bs 74 [(0, .long j0)] [.int is0] n F (ev_mq X Q) := by
  refine ev_istore_n (pc := 74) d_Mo_isStop_74 (Nat.le_of_ble_eq_true rfl) [1, 0] rfl ?_
  refine ev_lload_n (pc := 75) d_Mo_isStop_75 rfl ?_
  refine ev_lconst (pc := 76) 1 d_Mo_isStop_76 (by decide) ?_
  refine ev_lcmp (pc := 77) d_Mo_isStop_77 ?_
  refine ev_if_eq (pc := 78) 112 d_Mo_isStop_78 (by decide) (fun c78 => ?_) (fun c78 => ?_)
  · exact (k112_0 c78)
  · refine ev_iload_n (pc := 81) d_Mo_isStop_81 rfl ?_
    refine ev_if_ne (pc := 82) 112 d_Mo_isStop_82 (by decide) (fun c82 => ?_) (fun c82 => ?_)
    · exact (k112_1 c78 c82)
    · refine ev_lload_n (pc := 85) d_Mo_isStop_85 rfl ?_
      refine ev_iconst (pc := 86) 1 d_Mo_isStop_86 (by decide) ?_
      refine ev_bipush (pc := 87) 14 d_Mo_isStop_87 (by decide) ?_
      refine ev_iconst (pc := 89) 4 d_Mo_isStop_89 (by decide) ?_
      refine ev_iconst (pc := 90) 0 d_Mo_isStop_90 (by decide) ?_
      refine ev_invokestatic (pc := 91) (As := [.int 1, .int 14, .int 4, .int 0]) (st := [.long j0]) (Q2 := ev_pure (.long v91) n F) (bc1 := 0) (bs1 := 0) M_Mo_text d_Mo_isStop_91 lc_Mo_87 wd_1005 rfl rfl (Nat.le_of_ble_eq_true rfl) (Nat.le_of_ble_eq_true rfl) (Nat.le_of_ble_eq_true rfl) (Nat.le_refl _) (Nat.le_refl _) (c91_2 c78 c82) ?_
      refine ev_purek ?_
      refine ev_lcmp (pc := 94) d_Mo_isStop_94 ?_
      refine ev_if_eq (pc := 95) 112 d_Mo_isStop_95 (by decide) (fun c95 => ?_) (fun c95 => ?_)
      · exact (k112_3 c78 c82 c95)
      · refine ev_lload_n (pc := 98) d_Mo_isStop_98 rfl ?_
        refine ev_bipush (pc := 99) 20 d_Mo_isStop_99 (by decide) ?_
        refine ev_bipush (pc := 101) 8 d_Mo_isStop_101 (by decide) ?_
        refine ev_iconst (pc := 103) 5 d_Mo_isStop_103 (by decide) ?_
        refine ev_iconst (pc := 104) 0 d_Mo_isStop_104 (by decide) ?_
        refine ev_invokestatic (pc := 105) (As := [.int 20, .int 8, .int 5, .int 0]) (st := [.long j0]) (Q2 := ev_pure (.long v105) n F) (bc1 := 0) (bs1 := 0) M_Mo_text d_Mo_isStop_105 lc_Mo_87 wd_1005 rfl rfl (Nat.le_of_ble_eq_true rfl) (Nat.le_of_ble_eq_true rfl) (Nat.le_of_ble_eq_true rfl) (Nat.le_refl _) (Nat.le_refl _) (c105_4 c78 c82 c95) ?_
        refine ev_purek ?_
        refine ev_lcmp (pc := 108) d_Mo_isStop_108 ?_
        refine ev_if_ne (pc := 109) 116 d_Mo_isStop_109 (by decide) (fun c109 => ?_) (fun c109 => ?_)
        · refine ev_iconst (pc := 116) 0 d_Mo_isStop_116 (by decide) ?_
          exact (k117_5 c78 c82 c95 c109)
        · exact (k112_6 c78 c82 c95 c109)

set_option maxRecDepth 100000 in
set_option maxHeartbeats 4000000 in
theorem s_Mo_isStop_112 {l : Launch} {X : ev_X} {bc bs n : Nat} {F : ev_H} {Q : Option Value → Nat → ev_H → Prop} {j0 : Int64} {i2 : Int32} 
    (k117_0 : Ev l X M_Mo_isStop bc bs 117 [(0, .long j0), (2, .int i2)] [.int 1] n F (ev_mq X Q)) :
    Ev l X M_Mo_isStop bc bs 112 [(0, .long j0), (2, .int i2)] [] n F (ev_mq X Q) := by
  refine ev_iconst (pc := 112) 1 d_Mo_isStop_112 (by decide) ?_
  refine ev_goto (pc := 113) 117 d_Mo_isStop_113 (by decide) ?_
  exact k117_0

set_option maxRecDepth 100000 in
set_option maxHeartbeats 4000000 in
theorem s_Mo_isStop_117 {l : Launch} {X : ev_X} {bc bs n : Nat} {F : ev_H} {Q : Option Value → Nat → ev_H → Prop} {j0 : Int64} {i2 : Int32} {is0 : Int32} 
    (q117_0 : Q (some (.int is0)) n F)
    (nr117_1 : narrow .boolean (.int is0) = .int is0) :
    Ev l X M_Mo_isStop bc bs 117 [(0, .long j0), (2, .int i2)] [.int is0] n F (ev_mq X Q) := by
  exact ev_ireturn (pc := 117) d_Mo_isStop_117 rfl nr117_1 q117_0
set_option maxRecDepth 100000 in
set_option maxHeartbeats 4000000 in
theorem s_Mo_plural_0 {l : Launch} {X : ev_X} {bc bs n : Nat} {F : ev_H} {Q : Option Value → Nat → ev_H → Prop} {j0 : Int64} {v8 : Int64} {v11 : Int32} {v35 : Int64} {v24 : Int64} {v27 : Int32} {v45 : Int64} {v48 : Int32} {v61 : Int64} {v64 : Int32} {v72 : Int64} {v35_2 : Int64} 
    (c8_0 : Cal l X M_Mo_text 0 0 [.int 19, .int 19, .int 5, .int 19] n F (ev_pure (.long v8) n F))
    (c11_1 : Cal l X M_Mo_ends 0 0 [.long j0, .long v8] n F (ev_pure (.int v11) n F))
    (c35_2 : (¬ v11 = 0) → Cal l X M_Mo_without 0 0 [.long j0, .int 2] n F (ev_pure (.long v35) n F))
    (q38_3 : (¬ v11 = 0) → Q (some (.long v35)) n F)
    (c24_4 : (v11 = 0) → Cal l X M_Mo_text 0 0 [.int 9, .int 5, .int 19, .int 0] n F (ev_pure (.long v24) n F))
    (c27_5 : (v11 = 0) → Cal l X M_Mo_ends 0 0 [.long j0, .long v24] n F (ev_pure (.int v27) n F))
    (c45_6 : (v11 = 0) → (v27 = 0) → Cal l X M_Mo_text 0 0 [.int 19, .int 0, .int 0, .int 0] n F (ev_pure (.long v45) n F))
    (c48_7 : (v11 = 0) → (v27 = 0) → Cal l X M_Mo_ends 0 0 [.long j0, .long v45] n F (ev_pure (.int v48) n F))
    (q79_8 : (v11 = 0) → (v27 = 0) → (v48 = 0) → Q (some (.long j0)) n F)
    (c61_9 : (v11 = 0) → (v27 = 0) → (¬ v48 = 0) → Cal l X M_Mo_text 0 0 [.int 19, .int 19, .int 0, .int 0] n F (ev_pure (.long v61) n F))
    (c64_10 : (v11 = 0) → (v27 = 0) → (¬ v48 = 0) → Cal l X M_Mo_ends 0 0 [.long j0, .long v61] n F (ev_pure (.int v64) n F))
    (q79_11 : (v11 = 0) → (v27 = 0) → (¬ v48 = 0) → (¬ v64 = 0) → Q (some (.long j0)) n F)
    (c72_12 : (v11 = 0) → (v27 = 0) → (¬ v48 = 0) → (v64 = 0) → Cal l X M_Mo_without 0 0 [.long j0, .int 1] n F (ev_pure (.long v72) n F))
    (q79_13 : (v11 = 0) → (v27 = 0) → (¬ v48 = 0) → (v64 = 0) → Q (some (.long v72)) n F)
    (c35_14 : (v11 = 0) → (¬ v27 = 0) → Cal l X M_Mo_without 0 0 [.long j0, .int 2] n F (ev_pure (.long v35_2) n F))
    (q38_15 : (v11 = 0) → (¬ v27 = 0) → Q (some (.long v35_2)) n F) :
    Ev l X M_Mo_plural bc bs 0 [(0, .long j0)] [] n F (ev_mq X Q) := by
  refine ev_lload_n (pc := 0) d_Mo_plural_0 rfl ?_
  refine ev_bipush (pc := 1) 19 d_Mo_plural_1 (by decide) ?_
  refine ev_bipush (pc := 3) 19 d_Mo_plural_3 (by decide) ?_
  refine ev_iconst (pc := 5) 5 d_Mo_plural_5 (by decide) ?_
  refine ev_bipush (pc := 6) 19 d_Mo_plural_6 (by decide) ?_
  refine ev_invokestatic (pc := 8) (As := [.int 19, .int 19, .int 5, .int 19]) (st := [.long j0]) (Q2 := ev_pure (.long v8) n F) (bc1 := 0) (bs1 := 0) M_Mo_text d_Mo_plural_8 lc_Mo_87 wd_1005 rfl rfl (Nat.le_of_ble_eq_true rfl) (Nat.le_of_ble_eq_true rfl) (Nat.le_of_ble_eq_true rfl) (Nat.le_refl _) (Nat.le_refl _) c8_0 ?_
  refine ev_purek ?_
  refine ev_invokestatic (pc := 11) (As := [.long j0, .long v8]) (st := []) (Q2 := ev_pure (.int v11) n F) (bc1 := 0) (bs1 := 0) M_Mo_ends d_Mo_plural_11 lc_Mo_91 wd_1008 rfl rfl (Nat.le_of_ble_eq_true rfl) (Nat.le_of_ble_eq_true rfl) (Nat.le_of_ble_eq_true rfl) (Nat.le_refl _) (Nat.le_refl _) c11_1 ?_
  refine ev_purek ?_
  refine ev_if_ne (pc := 14) 33 d_Mo_plural_14 (by decide) (fun c14 => ?_) (fun c14 => ?_)
  · refine ev_lload_n (pc := 33) d_Mo_plural_33 rfl ?_
    refine ev_iconst (pc := 34) 2 d_Mo_plural_34 (by decide) ?_
    refine ev_invokestatic (pc := 35) (As := [.long j0, .int 2]) (st := []) (Q2 := ev_pure (.long v35) n F) (bc1 := 0) (bs1 := 0) M_Mo_without d_Mo_plural_35 lc_Mo_95 wd_1011 rfl rfl (Nat.le_of_ble_eq_true rfl) (Nat.le_of_ble_eq_true rfl) (Nat.le_of_ble_eq_true rfl) (Nat.le_refl _) (Nat.le_refl _) (c35_2 c14) ?_
    refine ev_purek ?_
    exact ev_lreturn (pc := 38) d_Mo_plural_38 rfl (q38_3 c14)
  · refine ev_lload_n (pc := 17) d_Mo_plural_17 rfl ?_
    refine ev_bipush (pc := 18) 9 d_Mo_plural_18 (by decide) ?_
    refine ev_iconst (pc := 20) 5 d_Mo_plural_20 (by decide) ?_
    refine ev_bipush (pc := 21) 19 d_Mo_plural_21 (by decide) ?_
    refine ev_iconst (pc := 23) 0 d_Mo_plural_23 (by decide) ?_
    refine ev_invokestatic (pc := 24) (As := [.int 9, .int 5, .int 19, .int 0]) (st := [.long j0]) (Q2 := ev_pure (.long v24) n F) (bc1 := 0) (bs1 := 0) M_Mo_text d_Mo_plural_24 lc_Mo_87 wd_1005 rfl rfl (Nat.le_of_ble_eq_true rfl) (Nat.le_of_ble_eq_true rfl) (Nat.le_of_ble_eq_true rfl) (Nat.le_refl _) (Nat.le_refl _) (c24_4 c14) ?_
    refine ev_purek ?_
    refine ev_invokestatic (pc := 27) (As := [.long j0, .long v24]) (st := []) (Q2 := ev_pure (.int v27) n F) (bc1 := 0) (bs1 := 0) M_Mo_ends d_Mo_plural_27 lc_Mo_91 wd_1008 rfl rfl (Nat.le_of_ble_eq_true rfl) (Nat.le_of_ble_eq_true rfl) (Nat.le_of_ble_eq_true rfl) (Nat.le_refl _) (Nat.le_refl _) (c27_5 c14) ?_
    refine ev_purek ?_
    refine ev_if_eq (pc := 30) 39 d_Mo_plural_30 (by decide) (fun c30 => ?_) (fun c30 => ?_)
    · refine ev_lload_n (pc := 39) d_Mo_plural_39 rfl ?_
      refine ev_bipush (pc := 40) 19 d_Mo_plural_40 (by decide) ?_
      refine ev_iconst (pc := 42) 0 d_Mo_plural_42 (by decide) ?_
      refine ev_iconst (pc := 43) 0 d_Mo_plural_43 (by decide) ?_
      refine ev_iconst (pc := 44) 0 d_Mo_plural_44 (by decide) ?_
      refine ev_invokestatic (pc := 45) (As := [.int 19, .int 0, .int 0, .int 0]) (st := [.long j0]) (Q2 := ev_pure (.long v45) n F) (bc1 := 0) (bs1 := 0) M_Mo_text d_Mo_plural_45 lc_Mo_87 wd_1005 rfl rfl (Nat.le_of_ble_eq_true rfl) (Nat.le_of_ble_eq_true rfl) (Nat.le_of_ble_eq_true rfl) (Nat.le_refl _) (Nat.le_refl _) (c45_6 c14 c30) ?_
      refine ev_purek ?_
      refine ev_invokestatic (pc := 48) (As := [.long j0, .long v45]) (st := []) (Q2 := ev_pure (.int v48) n F) (bc1 := 0) (bs1 := 0) M_Mo_ends d_Mo_plural_48 lc_Mo_91 wd_1008 rfl rfl (Nat.le_of_ble_eq_true rfl) (Nat.le_of_ble_eq_true rfl) (Nat.le_of_ble_eq_true rfl) (Nat.le_refl _) (Nat.le_refl _) (c48_7 c14 c30) ?_
      refine ev_purek ?_
      refine ev_if_eq (pc := 51) 78 d_Mo_plural_51 (by decide) (fun c51 => ?_) (fun c51 => ?_)
      · refine ev_lload_n (pc := 78) d_Mo_plural_78 rfl ?_
        exact ev_lreturn (pc := 79) d_Mo_plural_79 rfl (q79_8 c14 c30 c51)
      · refine ev_lload_n (pc := 54) d_Mo_plural_54 rfl ?_
        refine ev_bipush (pc := 55) 19 d_Mo_plural_55 (by decide) ?_
        refine ev_bipush (pc := 57) 19 d_Mo_plural_57 (by decide) ?_
        refine ev_iconst (pc := 59) 0 d_Mo_plural_59 (by decide) ?_
        refine ev_iconst (pc := 60) 0 d_Mo_plural_60 (by decide) ?_
        refine ev_invokestatic (pc := 61) (As := [.int 19, .int 19, .int 0, .int 0]) (st := [.long j0]) (Q2 := ev_pure (.long v61) n F) (bc1 := 0) (bs1 := 0) M_Mo_text d_Mo_plural_61 lc_Mo_87 wd_1005 rfl rfl (Nat.le_of_ble_eq_true rfl) (Nat.le_of_ble_eq_true rfl) (Nat.le_of_ble_eq_true rfl) (Nat.le_refl _) (Nat.le_refl _) (c61_9 c14 c30 c51) ?_
        refine ev_purek ?_
        refine ev_invokestatic (pc := 64) (As := [.long j0, .long v61]) (st := []) (Q2 := ev_pure (.int v64) n F) (bc1 := 0) (bs1 := 0) M_Mo_ends d_Mo_plural_64 lc_Mo_91 wd_1008 rfl rfl (Nat.le_of_ble_eq_true rfl) (Nat.le_of_ble_eq_true rfl) (Nat.le_of_ble_eq_true rfl) (Nat.le_refl _) (Nat.le_refl _) (c64_10 c14 c30 c51) ?_
        refine ev_purek ?_
        refine ev_if_ne (pc := 67) 78 d_Mo_plural_67 (by decide) (fun c67 => ?_) (fun c67 => ?_)
        · refine ev_lload_n (pc := 78) d_Mo_plural_78 rfl ?_
          exact ev_lreturn (pc := 79) d_Mo_plural_79 rfl (q79_11 c14 c30 c51 c67)
        · refine ev_lload_n (pc := 70) d_Mo_plural_70 rfl ?_
          refine ev_iconst (pc := 71) 1 d_Mo_plural_71 (by decide) ?_
          refine ev_invokestatic (pc := 72) (As := [.long j0, .int 1]) (st := []) (Q2 := ev_pure (.long v72) n F) (bc1 := 0) (bs1 := 0) M_Mo_without d_Mo_plural_72 lc_Mo_95 wd_1011 rfl rfl (Nat.le_of_ble_eq_true rfl) (Nat.le_of_ble_eq_true rfl) (Nat.le_of_ble_eq_true rfl) (Nat.le_refl _) (Nat.le_refl _) (c72_12 c14 c30 c51 c67) ?_
          refine ev_purek ?_
          refine ev_goto (pc := 75) 79 d_Mo_plural_75 (by decide) ?_
          exact ev_lreturn (pc := 79) d_Mo_plural_79 rfl (q79_13 c14 c30 c51 c67)
    · refine ev_lload_n (pc := 33) d_Mo_plural_33 rfl ?_
      refine ev_iconst (pc := 34) 2 d_Mo_plural_34 (by decide) ?_
      refine ev_invokestatic (pc := 35) (As := [.long j0, .int 2]) (st := []) (Q2 := ev_pure (.long v35_2) n F) (bc1 := 0) (bs1 := 0) M_Mo_without d_Mo_plural_35 lc_Mo_95 wd_1011 rfl rfl (Nat.le_of_ble_eq_true rfl) (Nat.le_of_ble_eq_true rfl) (Nat.le_of_ble_eq_true rfl) (Nat.le_refl _) (Nat.le_refl _) (c35_14 c14 c30) ?_
      refine ev_purek ?_
      exact ev_lreturn (pc := 38) d_Mo_plural_38 rfl (q38_15 c14 c30)
set_option maxRecDepth 100000 in
set_option maxHeartbeats 4000000 in
theorem s_Mo_shortEnd_0 {l : Launch} {X : ev_X} {bc bs n : Nat} {F : ev_H} {Q : Option Value → Nat → ev_H → Prop} {j0 : Int64} {v1 : Int32} {v14 : Int32} {v24 : Int32} {v34 : Int32} {v46 : Int32} {v58 : Int32} 
    (c1_0 : Cal l X M_Mo_length 0 0 [.long j0] n F (ev_pure (.int v1) n F))
    (q41_1 : (v1 < 3) → Q (some (.int 0)) n F)
    (c14_2 : (¬ v1 < 3) → Cal l X M_Mo_isVowel 0 0 [.long j0, .int (v1 - 3)] n F (ev_pure (.int v14) n F))
    (q41_3 : (¬ v1 < 3) → (¬ v14 = 0) → Q (some (.int 0)) n F)
    (c24_4 : (¬ v1 < 3) → (v14 = 0) → Cal l X M_Mo_isVowel 0 0 [.long j0, .int (v1 - 2)] n F (ev_pure (.int v24) n F))
    (q41_5 : (¬ v1 < 3) → (v14 = 0) → (v24 = 0) → Q (some (.int 0)) n F)
    (c34_6 : (¬ v1 < 3) → (v14 = 0) → (¬ v24 = 0) → Cal l X M_Mo_isVowel 0 0 [.long j0, .int (v1 - 1)] n F (ev_pure (.int v34) n F))
    (c46_7 : (¬ v1 < 3) → (v14 = 0) → (¬ v24 = 0) → (v34 = 0) → Cal l X M_Mo_letter 0 0 [.long j0, .int (v1 - 1)] n F (ev_pure (.int v46) n F))
    (q71_8 : (¬ v1 < 3) → (v14 = 0) → (¬ v24 = 0) → (v34 = 0) → (v46 < 23) → Q (some (.int 1)) n F)
    (c58_9 : (¬ v1 < 3) → (v14 = 0) → (¬ v24 = 0) → (v34 = 0) → (¬ v46 < 23) → Cal l X M_Mo_letter 0 0 [.long j0, .int (v1 - 1)] n F (ev_pure (.int v58) n F))
    (q71_10 : (¬ v1 < 3) → (v14 = 0) → (¬ v24 = 0) → (v34 = 0) → (¬ v46 < 23) → (¬ v58 = 26) → Q (some (.int 0)) n F)
    (q71_11 : (¬ v1 < 3) → (v14 = 0) → (¬ v24 = 0) → (v34 = 0) → (¬ v46 < 23) → (v58 = 26) → Q (some (.int 1)) n F)
    (q41_12 : (¬ v1 < 3) → (v14 = 0) → (¬ v24 = 0) → (¬ v34 = 0) → Q (some (.int 0)) n F) :
    Ev l X M_Mo_shortEnd bc bs 0 [(0, .long j0)] [] n F (ev_mq X Q) := by
  refine ev_lload_n (pc := 0) d_Mo_shortEnd_0 rfl ?_
  refine ev_invokestatic (pc := 1) (As := [.long j0]) (st := []) (Q2 := ev_pure (.int v1) n F) (bc1 := 0) (bs1 := 0) M_Mo_length d_Mo_shortEnd_1 lc_Mo_71 wd_992 rfl rfl (Nat.le_of_ble_eq_true rfl) (Nat.le_of_ble_eq_true rfl) (Nat.le_of_ble_eq_true rfl) (Nat.le_refl _) (Nat.le_refl _) c1_0 ?_
  refine ev_purek ?_
  refine ev_istore_n (pc := 4) d_Mo_shortEnd_4 (Nat.le_of_ble_eq_true rfl) [1, 0] rfl ?_
  refine ev_iload_n (pc := 5) d_Mo_shortEnd_5 rfl ?_
  refine ev_iconst (pc := 6) 3 d_Mo_shortEnd_6 (by decide) ?_
  refine ev_icmp_lt (pc := 7) 40 d_Mo_shortEnd_7 (by decide) (fun c7 => ?_) (fun c7 => ?_)
  · refine ev_iconst (pc := 40) 0 d_Mo_shortEnd_40 (by decide) ?_
    exact ev_ireturn (pc := 41) d_Mo_shortEnd_41 rfl rfl (q41_1 c7)
  · refine ev_lload_n (pc := 10) d_Mo_shortEnd_10 rfl ?_
    refine ev_iload_n (pc := 11) d_Mo_shortEnd_11 rfl ?_
    refine ev_iconst (pc := 12) 3 d_Mo_shortEnd_12 (by decide) ?_
    refine ev_isub (pc := 13) d_Mo_shortEnd_13 ?_
    refine ev_invokestatic (pc := 14) (As := [.long j0, .int (v1 - 3)]) (st := []) (Q2 := ev_pure (.int v14) n F) (bc1 := 0) (bs1 := 0) M_Mo_isVowel d_Mo_shortEnd_14 lc_Mo_79 wd_1023 rfl rfl (Nat.le_of_ble_eq_true rfl) (Nat.le_of_ble_eq_true rfl) (Nat.le_of_ble_eq_true rfl) (Nat.le_refl _) (Nat.le_refl _) (c14_2 c7) ?_
    refine ev_purek ?_
    refine ev_if_ne (pc := 17) 40 d_Mo_shortEnd_17 (by decide) (fun c17 => ?_) (fun c17 => ?_)
    · refine ev_iconst (pc := 40) 0 d_Mo_shortEnd_40 (by decide) ?_
      exact ev_ireturn (pc := 41) d_Mo_shortEnd_41 rfl rfl (q41_3 c7 c17)
    · refine ev_lload_n (pc := 20) d_Mo_shortEnd_20 rfl ?_
      refine ev_iload_n (pc := 21) d_Mo_shortEnd_21 rfl ?_
      refine ev_iconst (pc := 22) 2 d_Mo_shortEnd_22 (by decide) ?_
      refine ev_isub (pc := 23) d_Mo_shortEnd_23 ?_
      refine ev_invokestatic (pc := 24) (As := [.long j0, .int (v1 - 2)]) (st := []) (Q2 := ev_pure (.int v24) n F) (bc1 := 0) (bs1 := 0) M_Mo_isVowel d_Mo_shortEnd_24 lc_Mo_79 wd_1023 rfl rfl (Nat.le_of_ble_eq_true rfl) (Nat.le_of_ble_eq_true rfl) (Nat.le_of_ble_eq_true rfl) (Nat.le_refl _) (Nat.le_refl _) (c24_4 c7 c17) ?_
      refine ev_purek ?_
      refine ev_if_eq (pc := 27) 40 d_Mo_shortEnd_27 (by decide) (fun c27 => ?_) (fun c27 => ?_)
      · refine ev_iconst (pc := 40) 0 d_Mo_shortEnd_40 (by decide) ?_
        exact ev_ireturn (pc := 41) d_Mo_shortEnd_41 rfl rfl (q41_5 c7 c17 c27)
      · refine ev_lload_n (pc := 30) d_Mo_shortEnd_30 rfl ?_
        refine ev_iload_n (pc := 31) d_Mo_shortEnd_31 rfl ?_
        refine ev_iconst (pc := 32) 1 d_Mo_shortEnd_32 (by decide) ?_
        refine ev_isub (pc := 33) d_Mo_shortEnd_33 ?_
        refine ev_invokestatic (pc := 34) (As := [.long j0, .int (v1 - 1)]) (st := []) (Q2 := ev_pure (.int v34) n F) (bc1 := 0) (bs1 := 0) M_Mo_isVowel d_Mo_shortEnd_34 lc_Mo_79 wd_1023 rfl rfl (Nat.le_of_ble_eq_true rfl) (Nat.le_of_ble_eq_true rfl) (Nat.le_of_ble_eq_true rfl) (Nat.le_refl _) (Nat.le_refl _) (c34_6 c7 c17 c27) ?_
        refine ev_purek ?_
        refine ev_if_eq (pc := 37) 42 d_Mo_shortEnd_37 (by decide) (fun c37 => ?_) (fun c37 => ?_)
        · refine ev_lload_n (pc := 42) d_Mo_shortEnd_42 rfl ?_
          refine ev_iload_n (pc := 43) d_Mo_shortEnd_43 rfl ?_
          refine ev_iconst (pc := 44) 1 d_Mo_shortEnd_44 (by decide) ?_
          refine ev_isub (pc := 45) d_Mo_shortEnd_45 ?_
          refine ev_invokestatic (pc := 46) (As := [.long j0, .int (v1 - 1)]) (st := []) (Q2 := ev_pure (.int v46) n F) (bc1 := 0) (bs1 := 0) M_Mo_letter d_Mo_shortEnd_46 lc_Mo_75 wd_995 rfl rfl (Nat.le_of_ble_eq_true rfl) (Nat.le_of_ble_eq_true rfl) (Nat.le_of_ble_eq_true rfl) (Nat.le_refl _) (Nat.le_refl _) (c46_7 c7 c17 c27 c37) ?_
          refine ev_purek ?_
          refine ev_bipush (pc := 49) 23 d_Mo_shortEnd_49 (by decide) ?_
          refine ev_icmp_lt (pc := 51) 66 d_Mo_shortEnd_51 (by decide) (fun c51 => ?_) (fun c51 => ?_)
          · refine ev_iconst (pc := 66) 1 d_Mo_shortEnd_66 (by decide) ?_
            refine ev_goto (pc := 67) 71 d_Mo_shortEnd_67 (by decide) ?_
            exact ev_ireturn (pc := 71) d_Mo_shortEnd_71 rfl rfl (q71_8 c7 c17 c27 c37 c51)
          · refine ev_lload_n (pc := 54) d_Mo_shortEnd_54 rfl ?_
            refine ev_iload_n (pc := 55) d_Mo_shortEnd_55 rfl ?_
            refine ev_iconst (pc := 56) 1 d_Mo_shortEnd_56 (by decide) ?_
            refine ev_isub (pc := 57) d_Mo_shortEnd_57 ?_
            refine ev_invokestatic (pc := 58) (As := [.long j0, .int (v1 - 1)]) (st := []) (Q2 := ev_pure (.int v58) n F) (bc1 := 0) (bs1 := 0) M_Mo_letter d_Mo_shortEnd_58 lc_Mo_75 wd_995 rfl rfl (Nat.le_of_ble_eq_true rfl) (Nat.le_of_ble_eq_true rfl) (Nat.le_of_ble_eq_true rfl) (Nat.le_refl _) (Nat.le_refl _) (c58_9 c7 c17 c27 c37 c51) ?_
            refine ev_purek ?_
            refine ev_bipush (pc := 61) 26 d_Mo_shortEnd_61 (by decide) ?_
            refine ev_icmp_ne (pc := 63) 70 d_Mo_shortEnd_63 (by decide) (fun c63 => ?_) (fun c63 => ?_)
            · refine ev_iconst (pc := 70) 0 d_Mo_shortEnd_70 (by decide) ?_
              exact ev_ireturn (pc := 71) d_Mo_shortEnd_71 rfl rfl (q71_10 c7 c17 c27 c37 c51 c63)
            · refine ev_iconst (pc := 66) 1 d_Mo_shortEnd_66 (by decide) ?_
              refine ev_goto (pc := 67) 71 d_Mo_shortEnd_67 (by decide) ?_
              exact ev_ireturn (pc := 71) d_Mo_shortEnd_71 rfl rfl (q71_11 c7 c17 c27 c37 c51 c63)
        · refine ev_iconst (pc := 40) 0 d_Mo_shortEnd_40 (by decide) ?_
          exact ev_ireturn (pc := 41) d_Mo_shortEnd_41 rfl rfl (q41_12 c7 c17 c27 c37)
set_option maxRecDepth 100000 in
set_option maxHeartbeats 4000000 in
theorem s_Mo_mended_0 {l : Launch} {X : ev_X} {bc bs n : Nat} {F : ev_H} {Q : Option Value → Nat → ev_H → Prop} {j0 : Int64} {v1 : Int32} {v21 : Int64} {v24 : Int32} {v36 : Int64} {v39 : Int32} {v52 : Int64} {v55 : Int32} {v67 : Int32} {v83 : Int32} {v93 : Int32} {v103 : Int32} 
    (c1_0 : Cal l X M_Mo_length 0 0 [.long j0] n F (ev_pure (.int v1) n F))
    (c21_1 : Cal l X M_Mo_text 0 0 [.int 1, .int 20, .int 0, .int 0] n F (ev_pure (.long v21) n F))
    (c24_2 : Cal l X M_Mo_ends 0 0 [.long j0, .long v21] n F (ev_pure (.int v24) n F))
    (k61_3 : (¬ v24 = 0) → Ev l X M_Mo_mended bc bs 61 [(0, .long j0), (2, .int v1), (3, .long (j0 ||| ((5 : Int64) <<< ((5 * v1).toInt64 &&& 63))))] [] n F (ev_mq X Q))
    (c36_4 : (v24 = 0) → Cal l X M_Mo_text 0 0 [.int 2, .int 12, .int 0, .int 0] n F (ev_pure (.long v36) n F))
    (c39_5 : (v24 = 0) → Cal l X M_Mo_ends 0 0 [.long j0, .long v36] n F (ev_pure (.int v39) n F))
    (k61_6 : (v24 = 0) → (¬ v39 = 0) → Ev l X M_Mo_mended bc bs 61 [(0, .long j0), (2, .int v1), (3, .long (j0 ||| ((5 : Int64) <<< ((5 * v1).toInt64 &&& 63))))] [] n F (ev_mq X Q))
    (c52_7 : (v24 = 0) → (v39 = 0) → Cal l X M_Mo_text 0 0 [.int 9, .int 26, .int 0, .int 0] n F (ev_pure (.long v52) n F))
    (c55_8 : (v24 = 0) → (v39 = 0) → Cal l X M_Mo_ends 0 0 [.long j0, .long v52] n F (ev_pure (.int v55) n F))
    (c67_9 : (v24 = 0) → (v39 = 0) → (v55 = 0) → Cal l X M_Mo_letter 0 0 [.long j0, .int (v1 - 1)] n F (ev_pure (.int v67) n F))
    (k113_10 : (v24 = 0) → (v39 = 0) → (v55 = 0) → (v1 ≤ 1) → Ev l X M_Mo_mended bc bs 113 [(0, .long j0), (2, .int v1), (3, .long (j0 ||| ((5 : Int64) <<< ((5 * v1).toInt64 &&& 63)))), (5, .int v67)] [] n F (ev_mq X Q))
    (c83_11 : (v24 = 0) → (v39 = 0) → (v55 = 0) → (¬ v1 ≤ 1) → Cal l X M_Mo_letter 0 0 [.long j0, .int (v1 - 2)] n F (ev_pure (.int v83) n F))
    (k113_12 : (v24 = 0) → (v39 = 0) → (v55 = 0) → (¬ v1 ≤ 1) → (¬ v67 = v83) → Ev l X M_Mo_mended bc bs 113 [(0, .long j0), (2, .int v1), (3, .long (j0 ||| ((5 : Int64) <<< ((5 * v1).toInt64 &&& 63)))), (5, .int v67)] [] n F (ev_mq X Q))
    (c93_13 : (v24 = 0) → (v39 = 0) → (v55 = 0) → (¬ v1 ≤ 1) → (v67 = v83) → Cal l X M_Mo_isVowel 0 0 [.long j0, .int (v1 - 1)] n F (ev_pure (.int v93) n F))
    (k113_14 : (v24 = 0) → (v39 = 0) → (v55 = 0) → (¬ v1 ≤ 1) → (v67 = v83) → (¬ v93 = 0) → Ev l X M_Mo_mended bc bs 113 [(0, .long j0), (2, .int v1), (3, .long (j0 ||| ((5 : Int64) <<< ((5 * v1).toInt64 &&& 63)))), (5, .int v67)] [] n F (ev_mq X Q))
    (c103_15 : (v24 = 0) → (v39 = 0) → (v55 = 0) → (¬ v1 ≤ 1) → (v67 = v83) → (v93 = 0) → Cal l X M_Mo_isVowel 0 0 [.long j0, .int (v1 - 2)] n F (ev_pure (.int v103) n F))
    (k113_16 : (v24 = 0) → (v39 = 0) → (v55 = 0) → (¬ v1 ≤ 1) → (v67 = v83) → (v93 = 0) → (¬ v103 = 0) → Ev l X M_Mo_mended bc bs 113 [(0, .long j0), (2, .int v1), (3, .long (j0 ||| ((5 : Int64) <<< ((5 * v1).toInt64 &&& 63)))), (5, .int v67)] [] n F (ev_mq X Q))
    (k114_17 : (v24 = 0) → (v39 = 0) → (v55 = 0) → (¬ v1 ≤ 1) → (v67 = v83) → (v93 = 0) → (v103 = 0) → Ev l X M_Mo_mended bc bs 114 [(0, .long j0), (2, .int v1), (3, .long (j0 ||| ((5 : Int64) <<< ((5 * v1).toInt64 &&& 63)))), (5, .int v67)] [.int 1] n F (ev_mq X Q))
    (k61_18 : (v24 = 0) → (v39 = 0) → (¬ v55 = 0) → Ev l X M_Mo_mended bc bs 61 [(0, .long j0), (2, .int v1), (3, .long (j0 ||| ((5 : Int64) <<< ((5 * v1).toInt64 &&& 63))))] [] n F (ev_mq X Q)) :
    Ev l X M_Mo_mended bc bs 0 [(0, .long j0)] [] n F (ev_mq X Q) := by
  refine ev_lload_n (pc := 0) d_Mo_mended_0 rfl ?_
  refine ev_invokestatic (pc := 1) (As := [.long j0]) (st := []) (Q2 := ev_pure (.int v1) n F) (bc1 := 0) (bs1 := 0) M_Mo_length d_Mo_mended_1 lc_Mo_71 wd_992 rfl rfl (Nat.le_of_ble_eq_true rfl) (Nat.le_of_ble_eq_true rfl) (Nat.le_of_ble_eq_true rfl) (Nat.le_refl _) (Nat.le_refl _) c1_0 ?_
  refine ev_purek ?_
  refine ev_istore_n (pc := 4) d_Mo_mended_4 (Nat.le_of_ble_eq_true rfl) [1, 0] rfl ?_
  refine ev_lload_n (pc := 5) d_Mo_mended_5 rfl ?_
  refine ev_ldc2 (pc := 6) (v := 5) d_Mo_mended_6 wd_1031 ?_
  refine ev_iconst (pc := 9) 5 d_Mo_mended_9 (by decide) ?_
  refine ev_iload_n (pc := 10) d_Mo_mended_10 rfl ?_
  refine ev_imul (pc := 11) d_Mo_mended_11 ?_
  refine ev_lshl (pc := 12) d_Mo_mended_12 ?_
  refine ev_lor (pc := 13) d_Mo_mended_13 ?_
  refine ev_lstore_n (pc := 14) d_Mo_mended_14 (Nat.le_of_ble_eq_true rfl) [1, 2, 0] rfl ?_
  refine ev_lload_n (pc := 15) d_Mo_mended_15 rfl ?_
  refine ev_iconst (pc := 16) 1 d_Mo_mended_16 (by decide) ?_
  refine ev_bipush (pc := 17) 20 d_Mo_mended_17 (by decide) ?_
  refine ev_iconst (pc := 19) 0 d_Mo_mended_19 (by decide) ?_
  refine ev_iconst (pc := 20) 0 d_Mo_mended_20 (by decide) ?_
  refine ev_invokestatic (pc := 21) (As := [.int 1, .int 20, .int 0, .int 0]) (st := [.long j0]) (Q2 := ev_pure (.long v21) n F) (bc1 := 0) (bs1 := 0) M_Mo_text d_Mo_mended_21 lc_Mo_87 wd_1005 rfl rfl (Nat.le_of_ble_eq_true rfl) (Nat.le_of_ble_eq_true rfl) (Nat.le_of_ble_eq_true rfl) (Nat.le_refl _) (Nat.le_refl _) c21_1 ?_
  refine ev_purek ?_
  refine ev_invokestatic (pc := 24) (As := [.long j0, .long v21]) (st := []) (Q2 := ev_pure (.int v24) n F) (bc1 := 0) (bs1 := 0) M_Mo_ends d_Mo_mended_24 lc_Mo_91 wd_1008 rfl rfl (Nat.le_of_ble_eq_true rfl) (Nat.le_of_ble_eq_true rfl) (Nat.le_of_ble_eq_true rfl) (Nat.le_refl _) (Nat.le_refl _) c24_2 ?_
  refine ev_purek ?_
  refine ev_if_ne (pc := 27) 61 d_Mo_mended_27 (by decide) (fun c27 => ?_) (fun c27 => ?_)
  · exact (k61_3 c27)
  · refine ev_lload_n (pc := 30) d_Mo_mended_30 rfl ?_
    refine ev_iconst (pc := 31) 2 d_Mo_mended_31 (by decide) ?_
    refine ev_bipush (pc := 32) 12 d_Mo_mended_32 (by decide) ?_
    refine ev_iconst (pc := 34) 0 d_Mo_mended_34 (by decide) ?_
    refine ev_iconst (pc := 35) 0 d_Mo_mended_35 (by decide) ?_
    refine ev_invokestatic (pc := 36) (As := [.int 2, .int 12, .int 0, .int 0]) (st := [.long j0]) (Q2 := ev_pure (.long v36) n F) (bc1 := 0) (bs1 := 0) M_Mo_text d_Mo_mended_36 lc_Mo_87 wd_1005 rfl rfl (Nat.le_of_ble_eq_true rfl) (Nat.le_of_ble_eq_true rfl) (Nat.le_of_ble_eq_true rfl) (Nat.le_refl _) (Nat.le_refl _) (c36_4 c27) ?_
    refine ev_purek ?_
    refine ev_invokestatic (pc := 39) (As := [.long j0, .long v36]) (st := []) (Q2 := ev_pure (.int v39) n F) (bc1 := 0) (bs1 := 0) M_Mo_ends d_Mo_mended_39 lc_Mo_91 wd_1008 rfl rfl (Nat.le_of_ble_eq_true rfl) (Nat.le_of_ble_eq_true rfl) (Nat.le_of_ble_eq_true rfl) (Nat.le_refl _) (Nat.le_refl _) (c39_5 c27) ?_
    refine ev_purek ?_
    refine ev_if_ne (pc := 42) 61 d_Mo_mended_42 (by decide) (fun c42 => ?_) (fun c42 => ?_)
    · exact (k61_6 c27 c42)
    · refine ev_lload_n (pc := 45) d_Mo_mended_45 rfl ?_
      refine ev_bipush (pc := 46) 9 d_Mo_mended_46 (by decide) ?_
      refine ev_bipush (pc := 48) 26 d_Mo_mended_48 (by decide) ?_
      refine ev_iconst (pc := 50) 0 d_Mo_mended_50 (by decide) ?_
      refine ev_iconst (pc := 51) 0 d_Mo_mended_51 (by decide) ?_
      refine ev_invokestatic (pc := 52) (As := [.int 9, .int 26, .int 0, .int 0]) (st := [.long j0]) (Q2 := ev_pure (.long v52) n F) (bc1 := 0) (bs1 := 0) M_Mo_text d_Mo_mended_52 lc_Mo_87 wd_1005 rfl rfl (Nat.le_of_ble_eq_true rfl) (Nat.le_of_ble_eq_true rfl) (Nat.le_of_ble_eq_true rfl) (Nat.le_refl _) (Nat.le_refl _) (c52_7 c27 c42) ?_
      refine ev_purek ?_
      refine ev_invokestatic (pc := 55) (As := [.long j0, .long v52]) (st := []) (Q2 := ev_pure (.int v55) n F) (bc1 := 0) (bs1 := 0) M_Mo_ends d_Mo_mended_55 lc_Mo_91 wd_1008 rfl rfl (Nat.le_of_ble_eq_true rfl) (Nat.le_of_ble_eq_true rfl) (Nat.le_of_ble_eq_true rfl) (Nat.le_refl _) (Nat.le_refl _) (c55_8 c27 c42) ?_
      refine ev_purek ?_
      refine ev_if_eq (pc := 58) 63 d_Mo_mended_58 (by decide) (fun c58 => ?_) (fun c58 => ?_)
      · refine ev_lload_n (pc := 63) d_Mo_mended_63 rfl ?_
        refine ev_iload_n (pc := 64) d_Mo_mended_64 rfl ?_
        refine ev_iconst (pc := 65) 1 d_Mo_mended_65 (by decide) ?_
        refine ev_isub (pc := 66) d_Mo_mended_66 ?_
        refine ev_invokestatic (pc := 67) (As := [.long j0, .int (v1 - 1)]) (st := []) (Q2 := ev_pure (.int v67) n F) (bc1 := 0) (bs1 := 0) M_Mo_letter d_Mo_mended_67 lc_Mo_75 wd_995 rfl rfl (Nat.le_of_ble_eq_true rfl) (Nat.le_of_ble_eq_true rfl) (Nat.le_of_ble_eq_true rfl) (Nat.le_refl _) (Nat.le_refl _) (c67_9 c27 c42 c58) ?_
        refine ev_purek ?_
        refine ev_istore (pc := 70) d_Mo_mended_70 (Nat.le_of_ble_eq_true rfl) [1, 2, 3, 0] rfl ?_
        refine ev_iload_n (pc := 72) d_Mo_mended_72 rfl ?_
        refine ev_iconst (pc := 73) 1 d_Mo_mended_73 (by decide) ?_
        refine ev_icmp_le (pc := 74) 113 d_Mo_mended_74 (by decide) (fun c74 => ?_) (fun c74 => ?_)
        · exact (k113_10 c27 c42 c58 c74)
        · refine ev_iload (pc := 77) d_Mo_mended_77 rfl ?_
          refine ev_lload_n (pc := 79) d_Mo_mended_79 rfl ?_
          refine ev_iload_n (pc := 80) d_Mo_mended_80 rfl ?_
          refine ev_iconst (pc := 81) 2 d_Mo_mended_81 (by decide) ?_
          refine ev_isub (pc := 82) d_Mo_mended_82 ?_
          refine ev_invokestatic (pc := 83) (As := [.long j0, .int (v1 - 2)]) (st := [.int v67]) (Q2 := ev_pure (.int v83) n F) (bc1 := 0) (bs1 := 0) M_Mo_letter d_Mo_mended_83 lc_Mo_75 wd_995 rfl rfl (Nat.le_of_ble_eq_true rfl) (Nat.le_of_ble_eq_true rfl) (Nat.le_of_ble_eq_true rfl) (Nat.le_refl _) (Nat.le_refl _) (c83_11 c27 c42 c58 c74) ?_
          refine ev_purek ?_
          refine ev_icmp_ne (pc := 86) 113 d_Mo_mended_86 (by decide) (fun c86 => ?_) (fun c86 => ?_)
          · exact (k113_12 c27 c42 c58 c74 c86)
          · refine ev_lload_n (pc := 89) d_Mo_mended_89 rfl ?_
            refine ev_iload_n (pc := 90) d_Mo_mended_90 rfl ?_
            refine ev_iconst (pc := 91) 1 d_Mo_mended_91 (by decide) ?_
            refine ev_isub (pc := 92) d_Mo_mended_92 ?_
            refine ev_invokestatic (pc := 93) (As := [.long j0, .int (v1 - 1)]) (st := []) (Q2 := ev_pure (.int v93) n F) (bc1 := 0) (bs1 := 0) M_Mo_isVowel d_Mo_mended_93 lc_Mo_79 wd_1023 rfl rfl (Nat.le_of_ble_eq_true rfl) (Nat.le_of_ble_eq_true rfl) (Nat.le_of_ble_eq_true rfl) (Nat.le_refl _) (Nat.le_refl _) (c93_13 c27 c42 c58 c74 c86) ?_
            refine ev_purek ?_
            refine ev_if_ne (pc := 96) 113 d_Mo_mended_96 (by decide) (fun c96 => ?_) (fun c96 => ?_)
            · exact (k113_14 c27 c42 c58 c74 c86 c96)
            · refine ev_lload_n (pc := 99) d_Mo_mended_99 rfl ?_
              refine ev_iload_n (pc := 100) d_Mo_mended_100 rfl ?_
              refine ev_iconst (pc := 101) 2 d_Mo_mended_101 (by decide) ?_
              refine ev_isub (pc := 102) d_Mo_mended_102 ?_
              refine ev_invokestatic (pc := 103) (As := [.long j0, .int (v1 - 2)]) (st := []) (Q2 := ev_pure (.int v103) n F) (bc1 := 0) (bs1 := 0) M_Mo_isVowel d_Mo_mended_103 lc_Mo_79 wd_1023 rfl rfl (Nat.le_of_ble_eq_true rfl) (Nat.le_of_ble_eq_true rfl) (Nat.le_of_ble_eq_true rfl) (Nat.le_refl _) (Nat.le_refl _) (c103_15 c27 c42 c58 c74 c86 c96) ?_
              refine ev_purek ?_
              refine ev_if_ne (pc := 106) 113 d_Mo_mended_106 (by decide) (fun c106 => ?_) (fun c106 => ?_)
              · exact (k113_16 c27 c42 c58 c74 c86 c96 c106)
              · refine ev_iconst (pc := 109) 1 d_Mo_mended_109 (by decide) ?_
                refine ev_goto (pc := 110) 114 d_Mo_mended_110 (by decide) ?_
                exact (k114_17 c27 c42 c58 c74 c86 c96 c106)
      · exact (k61_18 c27 c42 c58)

set_option maxRecDepth 100000 in
set_option maxHeartbeats 4000000 in
theorem s_Mo_mended_61 {l : Launch} {X : ev_X} {bc bs n : Nat} {F : ev_H} {Q : Option Value → Nat → ev_H → Prop} {j0 : Int64} {i2 : Int32} {j3 : Int64} 
    (q62_0 : Q (some (.long j3)) n F) :
    Ev l X M_Mo_mended bc bs 61 [(0, .long j0), (2, .int i2), (3, .long j3)] [] n F (ev_mq X Q) := by
  refine ev_lload_n (pc := 61) d_Mo_mended_61 rfl ?_
  exact ev_lreturn (pc := 62) d_Mo_mended_62 rfl q62_0

set_option maxRecDepth 100000 in
set_option maxHeartbeats 4000000 in
theorem s_Mo_mended_113 {l : Launch} {X : ev_X} {bc bs n : Nat} {F : ev_H} {Q : Option Value → Nat → ev_H → Prop} {j0 : Int64} {i2 : Int32} {j3 : Int64} {i5 : Int32} 
    (k114_0 : Ev l X M_Mo_mended bc bs 114 [(0, .long j0), (2, .int i2), (3, .long j3), (5, .int i5)] [.int 0] n F (ev_mq X Q)) :
    Ev l X M_Mo_mended bc bs 113 [(0, .long j0), (2, .int i2), (3, .long j3), (5, .int i5)] [] n F (ev_mq X Q) := by
  refine ev_iconst (pc := 113) 0 d_Mo_mended_113 (by decide) ?_
  exact k114_0

set_option maxRecDepth 100000 in
set_option maxHeartbeats 4000000 in
theorem s_Mo_mended_114 {l : Launch} {X : ev_X} {bc bs n : Nat} {F : ev_H} {Q : Option Value → Nat → ev_H → Prop} {j0 : Int64} {i2 : Int32} {j3 : Int64} {i5 : Int32} {is0 : Int32} {v144 : Int64} 
    (k148_0 : (is0 = 0) → Ev l X M_Mo_mended bc bs 148 [(0, .long j0), (2, .int i2), (3, .long j3), (5, .int i5), (6, .int is0)] [] n F (ev_mq X Q))
    (k148_1 : (¬ is0 = 0) → (i5 = 12) → Ev l X M_Mo_mended bc bs 148 [(0, .long j0), (2, .int i2), (3, .long j3), (5, .int i5), (6, .int is0)] [] n F (ev_mq X Q))
    (k148_2 : (¬ is0 = 0) → (¬ i5 = 12) → (i5 = 19) → Ev l X M_Mo_mended bc bs 148 [(0, .long j0), (2, .int i2), (3, .long j3), (5, .int i5), (6, .int is0)] [] n F (ev_mq X Q))
    (k148_3 : (¬ is0 = 0) → (¬ i5 = 12) → (¬ i5 = 19) → (i5 = 26) → Ev l X M_Mo_mended bc bs 148 [(0, .long j0), (2, .int i2), (3, .long j3), (5, .int i5), (6, .int is0)] [] n F (ev_mq X Q))
    (c144_4 : (¬ is0 = 0) → (¬ i5 = 12) → (¬ i5 = 19) → (¬ i5 = 26) → Cal l X M_Mo_without 0 0 [.long j0, .int 1] n F (ev_pure (.long v144) n F))
    (q147_5 : (¬ is0 = 0) → (¬ i5 = 12) → (¬ i5 = 19) → (¬ i5 = 26) → Q (some (.long v144)) n F) :
    Ev l X M_Mo_mended bc bs 114 [(0, .long j0), (2, .int i2), (3, .long j3), (5, .int i5)] [.int is0] n F (ev_mq X Q) := by
  refine ev_istore (pc := 114) d_Mo_mended_114 (Nat.le_of_ble_eq_true rfl) [1, 2, 3, 4, 0] rfl ?_
  refine ev_iload (pc := 116) d_Mo_mended_116 rfl ?_
  refine ev_if_eq (pc := 118) 148 d_Mo_mended_118 (by decide) (fun c118 => ?_) (fun c118 => ?_)
  · exact (k148_0 c118)
  · refine ev_iload (pc := 121) d_Mo_mended_121 rfl ?_
    refine ev_bipush (pc := 123) 12 d_Mo_mended_123 (by decide) ?_
    refine ev_icmp_eq (pc := 125) 148 d_Mo_mended_125 (by decide) (fun c125 => ?_) (fun c125 => ?_)
    · exact (k148_1 c118 c125)
    · refine ev_iload (pc := 128) d_Mo_mended_128 rfl ?_
      refine ev_bipush (pc := 130) 19 d_Mo_mended_130 (by decide) ?_
      refine ev_icmp_eq (pc := 132) 148 d_Mo_mended_132 (by decide) (fun c132 => ?_) (fun c132 => ?_)
      · exact (k148_2 c118 c125 c132)
      · refine ev_iload (pc := 135) d_Mo_mended_135 rfl ?_
        refine ev_bipush (pc := 137) 26 d_Mo_mended_137 (by decide) ?_
        refine ev_icmp_eq (pc := 139) 148 d_Mo_mended_139 (by decide) (fun c139 => ?_) (fun c139 => ?_)
        · exact (k148_3 c118 c125 c132 c139)
        · refine ev_lload_n (pc := 142) d_Mo_mended_142 rfl ?_
          refine ev_iconst (pc := 143) 1 d_Mo_mended_143 (by decide) ?_
          refine ev_invokestatic (pc := 144) (As := [.long j0, .int 1]) (st := []) (Q2 := ev_pure (.long v144) n F) (bc1 := 0) (bs1 := 0) M_Mo_without d_Mo_mended_144 lc_Mo_95 wd_1011 rfl rfl (Nat.le_of_ble_eq_true rfl) (Nat.le_of_ble_eq_true rfl) (Nat.le_of_ble_eq_true rfl) (Nat.le_refl _) (Nat.le_refl _) (c144_4 c118 c125 c132 c139) ?_
          refine ev_purek ?_
          exact ev_lreturn (pc := 147) d_Mo_mended_147 rfl (q147_5 c118 c125 c132 c139)

set_option maxRecDepth 100000 in
set_option maxHeartbeats 4000000 in
theorem s_Mo_mended_148 {l : Launch} {X : ev_X} {bc bs n : Nat} {F : ev_H} {Q : Option Value → Nat → ev_H → Prop} {j0 : Int64} {i2 : Int32} {j3 : Int64} {i5 : Int32} {i6 : Int32} {v150 : Int32} {v158 : Int32} 
    (c150_0 : Cal l X M_Mo_measure 0 0 [.long j0, .int i2] n F (ev_pure (.int v150) n F))
    (q169_1 : (¬ v150 = 1) → Q (some (.long j0)) n F)
    (c158_2 : (v150 = 1) → Cal l X M_Mo_shortEnd 0 0 [.long j0] n F (ev_pure (.int v158) n F))
    (q169_3 : (v150 = 1) → (v158 = 0) → Q (some (.long j0)) n F)
    (q169_4 : (v150 = 1) → (¬ v158 = 0) → Q (some (.long j3)) n F) :
    Ev l X M_Mo_mended bc bs 148 [(0, .long j0), (2, .int i2), (3, .long j3), (5, .int i5), (6, .int i6)] [] n F (ev_mq X Q) := by
  refine ev_lload_n (pc := 148) d_Mo_mended_148 rfl ?_
  refine ev_iload_n (pc := 149) d_Mo_mended_149 rfl ?_
  refine ev_invokestatic (pc := 150) (As := [.long j0, .int i2]) (st := []) (Q2 := ev_pure (.int v150) n F) (bc1 := 0) (bs1 := 0) M_Mo_measure d_Mo_mended_150 lc_Mo_100 wd_1020 rfl rfl (Nat.le_of_ble_eq_true rfl) (Nat.le_of_ble_eq_true rfl) (Nat.le_of_ble_eq_true rfl) (Nat.le_refl _) (Nat.le_refl _) c150_0 ?_
  refine ev_purek ?_
  refine ev_iconst (pc := 153) 1 d_Mo_mended_153 (by decide) ?_
  refine ev_icmp_ne (pc := 154) 168 d_Mo_mended_154 (by decide) (fun c154 => ?_) (fun c154 => ?_)
  · refine ev_lload_n (pc := 168) d_Mo_mended_168 rfl ?_
    exact ev_lreturn (pc := 169) d_Mo_mended_169 rfl (q169_1 c154)
  · refine ev_lload_n (pc := 157) d_Mo_mended_157 rfl ?_
    refine ev_invokestatic (pc := 158) (As := [.long j0]) (st := []) (Q2 := ev_pure (.int v158) n F) (bc1 := 0) (bs1 := 0) M_Mo_shortEnd d_Mo_mended_158 lc_Mo_103 wd_1033 rfl rfl (Nat.le_of_ble_eq_true rfl) (Nat.le_of_ble_eq_true rfl) (Nat.le_of_ble_eq_true rfl) (Nat.le_refl _) (Nat.le_refl _) (c158_2 c154) ?_
    refine ev_purek ?_
    refine ev_if_eq (pc := 161) 168 d_Mo_mended_161 (by decide) (fun c161 => ?_) (fun c161 => ?_)
    · refine ev_lload_n (pc := 168) d_Mo_mended_168 rfl ?_
      exact ev_lreturn (pc := 169) d_Mo_mended_169 rfl (q169_3 c154 c161)
    · refine ev_lload_n (pc := 164) d_Mo_mended_164 rfl ?_
      refine ev_goto (pc := 165) 169 d_Mo_mended_165 (by decide) ?_
      exact ev_lreturn (pc := 169) d_Mo_mended_169 rfl (q169_4 c154 c161)
set_option maxRecDepth 100000 in
set_option maxHeartbeats 4000000 in
theorem s_Mo_past_0 {l : Launch} {X : ev_X} {bc bs n : Nat} {F : ev_H} {Q : Option Value → Nat → ev_H → Prop} {j0 : Int64} {v1 : Int32} {v10 : Int64} {v13 : Int32} {v44 : Int64} {v47 : Int32} {v82 : Int64} {v85 : Int32} {v95 : Int32} {v105 : Int64} {v108 : Int64} {v57 : Int32} {v82_2 : Int64} {v85_2 : Int32} {v95_2 : Int32} {v105_2 : Int64} {v108_2 : Int64} {v67 : Int64} {v70 : Int64} {v23 : Int32} {v31 : Int64} 
    (c1_0 : Cal l X M_Mo_length 0 0 [.long j0] n F (ev_pure (.int v1) n F))
    (c10_1 : Cal l X M_Mo_text 0 0 [.int 5, .int 5, .int 4, .int 0] n F (ev_pure (.long v10) n F))
    (c13_2 : Cal l X M_Mo_ends 0 0 [.long j0, .long v10] n F (ev_pure (.int v13) n F))
    (c44_3 : (v13 = 0) → Cal l X M_Mo_text 0 0 [.int 5, .int 4, .int 0, .int 0] n F (ev_pure (.long v44) n F))
    (c47_4 : (v13 = 0) → Cal l X M_Mo_ends 0 0 [.long j0, .long v44] n F (ev_pure (.int v47) n F))
    (c82_5 : (v13 = 0) → (v47 = 0) → Cal l X M_Mo_text 0 0 [.int 9, .int 14, .int 7, .int 0] n F (ev_pure (.long v82) n F))
    (c85_6 : (v13 = 0) → (v47 = 0) → Cal l X M_Mo_ends 0 0 [.long j0, .long v82] n F (ev_pure (.int v85) n F))
    (q115_7 : (v13 = 0) → (v47 = 0) → (v85 = 0) → Q (some (.long j0)) n F)
    (c95_8 : (v13 = 0) → (v47 = 0) → (¬ v85 = 0) → Cal l X M_Mo_someVowel 0 0 [.long j0, .int (v1 - 3)] n F (ev_pure (.int v95) n F))
    (q115_9 : (v13 = 0) → (v47 = 0) → (¬ v85 = 0) → (v95 = 0) → Q (some (.long j0)) n F)
    (c105_10 : (v13 = 0) → (v47 = 0) → (¬ v85 = 0) → (¬ v95 = 0) → Cal l X M_Mo_first 0 0 [.long j0, .int (v1 - 3)] n F (ev_pure (.long v105) n F))
    (c108_11 : (v13 = 0) → (v47 = 0) → (¬ v85 = 0) → (¬ v95 = 0) → Cal l X M_Mo_mended 0 0 [.long v105] n F (ev_pure (.long v108) n F))
    (q115_12 : (v13 = 0) → (v47 = 0) → (¬ v85 = 0) → (¬ v95 = 0) → Q (some (.long v108)) n F)
    (c57_13 : (v13 = 0) → (¬ v47 = 0) → Cal l X M_Mo_someVowel 0 0 [.long j0, .int (v1 - 2)] n F (ev_pure (.int v57) n F))
    (c82_14 : (v13 = 0) → (¬ v47 = 0) → (v57 = 0) → Cal l X M_Mo_text 0 0 [.int 9, .int 14, .int 7, .int 0] n F (ev_pure (.long v82_2) n F))
    (c85_15 : (v13 = 0) → (¬ v47 = 0) → (v57 = 0) → Cal l X M_Mo_ends 0 0 [.long j0, .long v82_2] n F (ev_pure (.int v85_2) n F))
    (q115_16 : (v13 = 0) → (¬ v47 = 0) → (v57 = 0) → (v85_2 = 0) → Q (some (.long j0)) n F)
    (c95_17 : (v13 = 0) → (¬ v47 = 0) → (v57 = 0) → (¬ v85_2 = 0) → Cal l X M_Mo_someVowel 0 0 [.long j0, .int (v1 - 3)] n F (ev_pure (.int v95_2) n F))
    (q115_18 : (v13 = 0) → (¬ v47 = 0) → (v57 = 0) → (¬ v85_2 = 0) → (v95_2 = 0) → Q (some (.long j0)) n F)
    (c105_19 : (v13 = 0) → (¬ v47 = 0) → (v57 = 0) → (¬ v85_2 = 0) → (¬ v95_2 = 0) → Cal l X M_Mo_first 0 0 [.long j0, .int (v1 - 3)] n F (ev_pure (.long v105_2) n F))
    (c108_20 : (v13 = 0) → (¬ v47 = 0) → (v57 = 0) → (¬ v85_2 = 0) → (¬ v95_2 = 0) → Cal l X M_Mo_mended 0 0 [.long v105_2] n F (ev_pure (.long v108_2) n F))
    (q115_21 : (v13 = 0) → (¬ v47 = 0) → (v57 = 0) → (¬ v85_2 = 0) → (¬ v95_2 = 0) → Q (some (.long v108_2)) n F)
    (c67_22 : (v13 = 0) → (¬ v47 = 0) → (¬ v57 = 0) → Cal l X M_Mo_first 0 0 [.long j0, .int (v1 - 2)] n F (ev_pure (.long v67) n F))
    (c70_23 : (v13 = 0) → (¬ v47 = 0) → (¬ v57 = 0) → Cal l X M_Mo_mended 0 0 [.long v67] n F (ev_pure (.long v70) n F))
    (q73_24 : (v13 = 0) → (¬ v47 = 0) → (¬ v57 = 0) → Q (some (.long v70)) n F)
    (c23_25 : (¬ v13 = 0) → Cal l X M_Mo_measure 0 0 [.long j0, .int (v1 - 3)] n F (ev_pure (.int v23) n F))
    (q38_26 : (¬ v13 = 0) → (v23 ≤ 0) → Q (some (.long j0)) n F)
    (c31_27 : (¬ v13 = 0) → (¬ v23 ≤ 0) → Cal l X M_Mo_without 0 0 [.long j0, .int 1] n F (ev_pure (.long v31) n F))
    (q38_28 : (¬ v13 = 0) → (¬ v23 ≤ 0) → Q (some (.long v31)) n F) :
    Ev l X M_Mo_past bc bs 0 [(0, .long j0)] [] n F (ev_mq X Q) := by
  refine ev_lload_n (pc := 0) d_Mo_past_0 rfl ?_
  refine ev_invokestatic (pc := 1) (As := [.long j0]) (st := []) (Q2 := ev_pure (.int v1) n F) (bc1 := 0) (bs1 := 0) M_Mo_length d_Mo_past_1 lc_Mo_71 wd_992 rfl rfl (Nat.le_of_ble_eq_true rfl) (Nat.le_of_ble_eq_true rfl) (Nat.le_of_ble_eq_true rfl) (Nat.le_refl _) (Nat.le_refl _) c1_0 ?_
  refine ev_purek ?_
  refine ev_istore_n (pc := 4) d_Mo_past_4 (Nat.le_of_ble_eq_true rfl) [1, 0] rfl ?_
  refine ev_lload_n (pc := 5) d_Mo_past_5 rfl ?_
  refine ev_iconst (pc := 6) 5 d_Mo_past_6 (by decide) ?_
  refine ev_iconst (pc := 7) 5 d_Mo_past_7 (by decide) ?_
  refine ev_iconst (pc := 8) 4 d_Mo_past_8 (by decide) ?_
  refine ev_iconst (pc := 9) 0 d_Mo_past_9 (by decide) ?_
  refine ev_invokestatic (pc := 10) (As := [.int 5, .int 5, .int 4, .int 0]) (st := [.long j0]) (Q2 := ev_pure (.long v10) n F) (bc1 := 0) (bs1 := 0) M_Mo_text d_Mo_past_10 lc_Mo_87 wd_1005 rfl rfl (Nat.le_of_ble_eq_true rfl) (Nat.le_of_ble_eq_true rfl) (Nat.le_of_ble_eq_true rfl) (Nat.le_refl _) (Nat.le_refl _) c10_1 ?_
  refine ev_purek ?_
  refine ev_invokestatic (pc := 13) (As := [.long j0, .long v10]) (st := []) (Q2 := ev_pure (.int v13) n F) (bc1 := 0) (bs1 := 0) M_Mo_ends d_Mo_past_13 lc_Mo_91 wd_1008 rfl rfl (Nat.le_of_ble_eq_true rfl) (Nat.le_of_ble_eq_true rfl) (Nat.le_of_ble_eq_true rfl) (Nat.le_refl _) (Nat.le_refl _) c13_2 ?_
  refine ev_purek ?_
  refine ev_if_eq (pc := 16) 39 d_Mo_past_16 (by decide) (fun c16 => ?_) (fun c16 => ?_)
  · refine ev_lload_n (pc := 39) d_Mo_past_39 rfl ?_
    refine ev_iconst (pc := 40) 5 d_Mo_past_40 (by decide) ?_
    refine ev_iconst (pc := 41) 4 d_Mo_past_41 (by decide) ?_
    refine ev_iconst (pc := 42) 0 d_Mo_past_42 (by decide) ?_
    refine ev_iconst (pc := 43) 0 d_Mo_past_43 (by decide) ?_
    refine ev_invokestatic (pc := 44) (As := [.int 5, .int 4, .int 0, .int 0]) (st := [.long j0]) (Q2 := ev_pure (.long v44) n F) (bc1 := 0) (bs1 := 0) M_Mo_text d_Mo_past_44 lc_Mo_87 wd_1005 rfl rfl (Nat.le_of_ble_eq_true rfl) (Nat.le_of_ble_eq_true rfl) (Nat.le_of_ble_eq_true rfl) (Nat.le_refl _) (Nat.le_refl _) (c44_3 c16) ?_
    refine ev_purek ?_
    refine ev_invokestatic (pc := 47) (As := [.long j0, .long v44]) (st := []) (Q2 := ev_pure (.int v47) n F) (bc1 := 0) (bs1 := 0) M_Mo_ends d_Mo_past_47 lc_Mo_91 wd_1008 rfl rfl (Nat.le_of_ble_eq_true rfl) (Nat.le_of_ble_eq_true rfl) (Nat.le_of_ble_eq_true rfl) (Nat.le_refl _) (Nat.le_refl _) (c47_4 c16) ?_
    refine ev_purek ?_
    refine ev_if_eq (pc := 50) 74 d_Mo_past_50 (by decide) (fun c50 => ?_) (fun c50 => ?_)
    · refine ev_lload_n (pc := 74) d_Mo_past_74 rfl ?_
      refine ev_bipush (pc := 75) 9 d_Mo_past_75 (by decide) ?_
      refine ev_bipush (pc := 77) 14 d_Mo_past_77 (by decide) ?_
      refine ev_bipush (pc := 79) 7 d_Mo_past_79 (by decide) ?_
      refine ev_iconst (pc := 81) 0 d_Mo_past_81 (by decide) ?_
      refine ev_invokestatic (pc := 82) (As := [.int 9, .int 14, .int 7, .int 0]) (st := [.long j0]) (Q2 := ev_pure (.long v82) n F) (bc1 := 0) (bs1 := 0) M_Mo_text d_Mo_past_82 lc_Mo_87 wd_1005 rfl rfl (Nat.le_of_ble_eq_true rfl) (Nat.le_of_ble_eq_true rfl) (Nat.le_of_ble_eq_true rfl) (Nat.le_refl _) (Nat.le_refl _) (c82_5 c16 c50) ?_
      refine ev_purek ?_
      refine ev_invokestatic (pc := 85) (As := [.long j0, .long v82]) (st := []) (Q2 := ev_pure (.int v85) n F) (bc1 := 0) (bs1 := 0) M_Mo_ends d_Mo_past_85 lc_Mo_91 wd_1008 rfl rfl (Nat.le_of_ble_eq_true rfl) (Nat.le_of_ble_eq_true rfl) (Nat.le_of_ble_eq_true rfl) (Nat.le_refl _) (Nat.le_refl _) (c85_6 c16 c50) ?_
      refine ev_purek ?_
      refine ev_if_eq (pc := 88) 114 d_Mo_past_88 (by decide) (fun c88 => ?_) (fun c88 => ?_)
      · refine ev_lload_n (pc := 114) d_Mo_past_114 rfl ?_
        exact ev_lreturn (pc := 115) d_Mo_past_115 rfl (q115_7 c16 c50 c88)
      · refine ev_lload_n (pc := 91) d_Mo_past_91 rfl ?_
        refine ev_iload_n (pc := 92) d_Mo_past_92 rfl ?_
        refine ev_iconst (pc := 93) 3 d_Mo_past_93 (by decide) ?_
        refine ev_isub (pc := 94) d_Mo_past_94 ?_
        refine ev_invokestatic (pc := 95) (As := [.long j0, .int (v1 - 3)]) (st := []) (Q2 := ev_pure (.int v95) n F) (bc1 := 0) (bs1 := 0) M_Mo_someVowel d_Mo_past_95 lc_Mo_107 wd_1026 rfl rfl (Nat.le_of_ble_eq_true rfl) (Nat.le_of_ble_eq_true rfl) (Nat.le_of_ble_eq_true rfl) (Nat.le_refl _) (Nat.le_refl _) (c95_8 c16 c50 c88) ?_
        refine ev_purek ?_
        refine ev_if_eq (pc := 98) 114 d_Mo_past_98 (by decide) (fun c98 => ?_) (fun c98 => ?_)
        · refine ev_lload_n (pc := 114) d_Mo_past_114 rfl ?_
          exact ev_lreturn (pc := 115) d_Mo_past_115 rfl (q115_9 c16 c50 c88 c98)
        · refine ev_lload_n (pc := 101) d_Mo_past_101 rfl ?_
          refine ev_iload_n (pc := 102) d_Mo_past_102 rfl ?_
          refine ev_iconst (pc := 103) 3 d_Mo_past_103 (by decide) ?_
          refine ev_isub (pc := 104) d_Mo_past_104 ?_
          refine ev_invokestatic (pc := 105) (As := [.long j0, .int (v1 - 3)]) (st := []) (Q2 := ev_pure (.long v105) n F) (bc1 := 0) (bs1 := 0) M_Mo_first d_Mo_past_105 lc_Mo_83 wd_1014 rfl rfl (Nat.le_of_ble_eq_true rfl) (Nat.le_of_ble_eq_true rfl) (Nat.le_of_ble_eq_true rfl) (Nat.le_refl _) (Nat.le_refl _) (c105_10 c16 c50 c88 c98) ?_
          refine ev_purek ?_
          refine ev_invokestatic (pc := 108) (As := [.long v105]) (st := []) (Q2 := ev_pure (.long v108) n F) (bc1 := 0) (bs1 := 0) M_Mo_mended d_Mo_past_108 lc_Mo_110 wd_1029 rfl rfl (Nat.le_of_ble_eq_true rfl) (Nat.le_of_ble_eq_true rfl) (Nat.le_of_ble_eq_true rfl) (Nat.le_refl _) (Nat.le_refl _) (c108_11 c16 c50 c88 c98) ?_
          refine ev_purek ?_
          refine ev_goto (pc := 111) 115 d_Mo_past_111 (by decide) ?_
          exact ev_lreturn (pc := 115) d_Mo_past_115 rfl (q115_12 c16 c50 c88 c98)
    · refine ev_lload_n (pc := 53) d_Mo_past_53 rfl ?_
      refine ev_iload_n (pc := 54) d_Mo_past_54 rfl ?_
      refine ev_iconst (pc := 55) 2 d_Mo_past_55 (by decide) ?_
      refine ev_isub (pc := 56) d_Mo_past_56 ?_
      refine ev_invokestatic (pc := 57) (As := [.long j0, .int (v1 - 2)]) (st := []) (Q2 := ev_pure (.int v57) n F) (bc1 := 0) (bs1 := 0) M_Mo_someVowel d_Mo_past_57 lc_Mo_107 wd_1026 rfl rfl (Nat.le_of_ble_eq_true rfl) (Nat.le_of_ble_eq_true rfl) (Nat.le_of_ble_eq_true rfl) (Nat.le_refl _) (Nat.le_refl _) (c57_13 c16 c50) ?_
      refine ev_purek ?_
      refine ev_if_eq (pc := 60) 74 d_Mo_past_60 (by decide) (fun c60 => ?_) (fun c60 => ?_)
      · refine ev_lload_n (pc := 74) d_Mo_past_74 rfl ?_
        refine ev_bipush (pc := 75) 9 d_Mo_past_75 (by decide) ?_
        refine ev_bipush (pc := 77) 14 d_Mo_past_77 (by decide) ?_
        refine ev_bipush (pc := 79) 7 d_Mo_past_79 (by decide) ?_
        refine ev_iconst (pc := 81) 0 d_Mo_past_81 (by decide) ?_
        refine ev_invokestatic (pc := 82) (As := [.int 9, .int 14, .int 7, .int 0]) (st := [.long j0]) (Q2 := ev_pure (.long v82_2) n F) (bc1 := 0) (bs1 := 0) M_Mo_text d_Mo_past_82 lc_Mo_87 wd_1005 rfl rfl (Nat.le_of_ble_eq_true rfl) (Nat.le_of_ble_eq_true rfl) (Nat.le_of_ble_eq_true rfl) (Nat.le_refl _) (Nat.le_refl _) (c82_14 c16 c50 c60) ?_
        refine ev_purek ?_
        refine ev_invokestatic (pc := 85) (As := [.long j0, .long v82_2]) (st := []) (Q2 := ev_pure (.int v85_2) n F) (bc1 := 0) (bs1 := 0) M_Mo_ends d_Mo_past_85 lc_Mo_91 wd_1008 rfl rfl (Nat.le_of_ble_eq_true rfl) (Nat.le_of_ble_eq_true rfl) (Nat.le_of_ble_eq_true rfl) (Nat.le_refl _) (Nat.le_refl _) (c85_15 c16 c50 c60) ?_
        refine ev_purek ?_
        refine ev_if_eq (pc := 88) 114 d_Mo_past_88 (by decide) (fun c88 => ?_) (fun c88 => ?_)
        · refine ev_lload_n (pc := 114) d_Mo_past_114 rfl ?_
          exact ev_lreturn (pc := 115) d_Mo_past_115 rfl (q115_16 c16 c50 c60 c88)
        · refine ev_lload_n (pc := 91) d_Mo_past_91 rfl ?_
          refine ev_iload_n (pc := 92) d_Mo_past_92 rfl ?_
          refine ev_iconst (pc := 93) 3 d_Mo_past_93 (by decide) ?_
          refine ev_isub (pc := 94) d_Mo_past_94 ?_
          refine ev_invokestatic (pc := 95) (As := [.long j0, .int (v1 - 3)]) (st := []) (Q2 := ev_pure (.int v95_2) n F) (bc1 := 0) (bs1 := 0) M_Mo_someVowel d_Mo_past_95 lc_Mo_107 wd_1026 rfl rfl (Nat.le_of_ble_eq_true rfl) (Nat.le_of_ble_eq_true rfl) (Nat.le_of_ble_eq_true rfl) (Nat.le_refl _) (Nat.le_refl _) (c95_17 c16 c50 c60 c88) ?_
          refine ev_purek ?_
          refine ev_if_eq (pc := 98) 114 d_Mo_past_98 (by decide) (fun c98 => ?_) (fun c98 => ?_)
          · refine ev_lload_n (pc := 114) d_Mo_past_114 rfl ?_
            exact ev_lreturn (pc := 115) d_Mo_past_115 rfl (q115_18 c16 c50 c60 c88 c98)
          · refine ev_lload_n (pc := 101) d_Mo_past_101 rfl ?_
            refine ev_iload_n (pc := 102) d_Mo_past_102 rfl ?_
            refine ev_iconst (pc := 103) 3 d_Mo_past_103 (by decide) ?_
            refine ev_isub (pc := 104) d_Mo_past_104 ?_
            refine ev_invokestatic (pc := 105) (As := [.long j0, .int (v1 - 3)]) (st := []) (Q2 := ev_pure (.long v105_2) n F) (bc1 := 0) (bs1 := 0) M_Mo_first d_Mo_past_105 lc_Mo_83 wd_1014 rfl rfl (Nat.le_of_ble_eq_true rfl) (Nat.le_of_ble_eq_true rfl) (Nat.le_of_ble_eq_true rfl) (Nat.le_refl _) (Nat.le_refl _) (c105_19 c16 c50 c60 c88 c98) ?_
            refine ev_purek ?_
            refine ev_invokestatic (pc := 108) (As := [.long v105_2]) (st := []) (Q2 := ev_pure (.long v108_2) n F) (bc1 := 0) (bs1 := 0) M_Mo_mended d_Mo_past_108 lc_Mo_110 wd_1029 rfl rfl (Nat.le_of_ble_eq_true rfl) (Nat.le_of_ble_eq_true rfl) (Nat.le_of_ble_eq_true rfl) (Nat.le_refl _) (Nat.le_refl _) (c108_20 c16 c50 c60 c88 c98) ?_
            refine ev_purek ?_
            refine ev_goto (pc := 111) 115 d_Mo_past_111 (by decide) ?_
            exact ev_lreturn (pc := 115) d_Mo_past_115 rfl (q115_21 c16 c50 c60 c88 c98)
      · refine ev_lload_n (pc := 63) d_Mo_past_63 rfl ?_
        refine ev_iload_n (pc := 64) d_Mo_past_64 rfl ?_
        refine ev_iconst (pc := 65) 2 d_Mo_past_65 (by decide) ?_
        refine ev_isub (pc := 66) d_Mo_past_66 ?_
        refine ev_invokestatic (pc := 67) (As := [.long j0, .int (v1 - 2)]) (st := []) (Q2 := ev_pure (.long v67) n F) (bc1 := 0) (bs1 := 0) M_Mo_first d_Mo_past_67 lc_Mo_83 wd_1014 rfl rfl (Nat.le_of_ble_eq_true rfl) (Nat.le_of_ble_eq_true rfl) (Nat.le_of_ble_eq_true rfl) (Nat.le_refl _) (Nat.le_refl _) (c67_22 c16 c50 c60) ?_
        refine ev_purek ?_
        refine ev_invokestatic (pc := 70) (As := [.long v67]) (st := []) (Q2 := ev_pure (.long v70) n F) (bc1 := 0) (bs1 := 0) M_Mo_mended d_Mo_past_70 lc_Mo_110 wd_1029 rfl rfl (Nat.le_of_ble_eq_true rfl) (Nat.le_of_ble_eq_true rfl) (Nat.le_of_ble_eq_true rfl) (Nat.le_refl _) (Nat.le_refl _) (c70_23 c16 c50 c60) ?_
        refine ev_purek ?_
        exact ev_lreturn (pc := 73) d_Mo_past_73 rfl (q73_24 c16 c50 c60)
  · refine ev_lload_n (pc := 19) d_Mo_past_19 rfl ?_
    refine ev_iload_n (pc := 20) d_Mo_past_20 rfl ?_
    refine ev_iconst (pc := 21) 3 d_Mo_past_21 (by decide) ?_
    refine ev_isub (pc := 22) d_Mo_past_22 ?_
    refine ev_invokestatic (pc := 23) (As := [.long j0, .int (v1 - 3)]) (st := []) (Q2 := ev_pure (.int v23) n F) (bc1 := 0) (bs1 := 0) M_Mo_measure d_Mo_past_23 lc_Mo_100 wd_1020 rfl rfl (Nat.le_of_ble_eq_true rfl) (Nat.le_of_ble_eq_true rfl) (Nat.le_of_ble_eq_true rfl) (Nat.le_refl _) (Nat.le_refl _) (c23_25 c16) ?_
    refine ev_purek ?_
    refine ev_if_le (pc := 26) 37 d_Mo_past_26 (by decide) (fun c26 => ?_) (fun c26 => ?_)
    · refine ev_lload_n (pc := 37) d_Mo_past_37 rfl ?_
      exact ev_lreturn (pc := 38) d_Mo_past_38 rfl (q38_26 c16 c26)
    · refine ev_lload_n (pc := 29) d_Mo_past_29 rfl ?_
      refine ev_iconst (pc := 30) 1 d_Mo_past_30 (by decide) ?_
      refine ev_invokestatic (pc := 31) (As := [.long j0, .int 1]) (st := []) (Q2 := ev_pure (.long v31) n F) (bc1 := 0) (bs1 := 0) M_Mo_without d_Mo_past_31 lc_Mo_95 wd_1011 rfl rfl (Nat.le_of_ble_eq_true rfl) (Nat.le_of_ble_eq_true rfl) (Nat.le_of_ble_eq_true rfl) (Nat.le_refl _) (Nat.le_refl _) (c31_27 c16 c26) ?_
      refine ev_purek ?_
      refine ev_goto (pc := 34) 38 d_Mo_past_34 (by decide) ?_
      exact ev_lreturn (pc := 38) d_Mo_past_38 rfl (q38_28 c16 c26)
set_option maxRecDepth 100000 in
set_option maxHeartbeats 4000000 in
theorem s_Mo_stemOf_0 {l : Launch} {X : ev_X} {bc bs n : Nat} {F : ev_H} {Q : Option Value → Nat → ev_H → Prop} {j0 : Int64} {v1 : Int32} {v11 : Int64} {v14 : Int64} {v19 : Int32} {v29 : Int32} {v42 : Int32} {v65 : Int64} 
    (c1_0 : Cal l X M_Mo_length 0 0 [.long j0] n F (ev_pure (.int v1) n F))
    (c11_1 : (3 ≤ v1) → Cal l X M_Mo_plural 0 0 [.long j0] n F (ev_pure (.long v11) n F))
    (c14_2 : (3 ≤ v1) → Cal l X M_Mo_past 0 0 [.long v11] n F (ev_pure (.long v14) n F))
    (c19_3 : (3 ≤ v1) → Cal l X M_Mo_length 0 0 [.long v14] n F (ev_pure (.int v19) n F))
    (c29_4 : (3 ≤ v1) → Cal l X M_Mo_letter 0 0 [.long v14, .int (v19 - 1)] n F (ev_pure (.int v29) n F))
    (q83_5 : (3 ≤ v1) → (¬ v29 = 25) → Q (some (.long v14)) n F)
    (c42_6 : (3 ≤ v1) → (v29 = 25) → Cal l X M_Mo_someVowel 0 0 [.long v14, .int (v19 - 1)] n F (ev_pure (.int v42) n F))
    (q83_7 : (3 ≤ v1) → (v29 = 25) → (v42 = 0) → Q (some (.long v14)) n F)
    (c65_8 : (3 ≤ v1) → (v29 = 25) → (¬ v42 = 0) → Cal l X M_Mo_first 0 0 [.long v14, .int (v19 - 1)] n F (ev_pure (.long v65) n F))
    (q83_9 : (3 ≤ v1) → (v29 = 25) → (¬ v42 = 0) → Q (some (.long (v65 ||| ((9 : Int64) <<< ((5 * (v19 - 1)).toInt64 &&& 63))))) n F)
    (q9_10 : (¬ 3 ≤ v1) → Q (some (.long j0)) n F) :
    Ev l X M_Mo_stemOf bc bs 0 [(0, .long j0)] [] n F (ev_mq X Q) := by
  refine ev_lload_n (pc := 0) d_Mo_stemOf_0 rfl ?_
  refine ev_invokestatic (pc := 1) (As := [.long j0]) (st := []) (Q2 := ev_pure (.int v1) n F) (bc1 := 0) (bs1 := 0) M_Mo_length d_Mo_stemOf_1 lc_Mo_71 wd_992 rfl rfl (Nat.le_of_ble_eq_true rfl) (Nat.le_of_ble_eq_true rfl) (Nat.le_of_ble_eq_true rfl) (Nat.le_refl _) (Nat.le_refl _) c1_0 ?_
  refine ev_purek ?_
  refine ev_iconst (pc := 4) 3 d_Mo_stemOf_4 (by decide) ?_
  refine ev_icmp_ge (pc := 5) 10 d_Mo_stemOf_5 (by decide) (fun c5 => ?_) (fun c5 => ?_)
  · refine ev_lload_n (pc := 10) d_Mo_stemOf_10 rfl ?_
    refine ev_invokestatic (pc := 11) (As := [.long j0]) (st := []) (Q2 := ev_pure (.long v11) n F) (bc1 := 0) (bs1 := 0) M_Mo_plural d_Mo_stemOf_11 lc_Mo_114 wd_1002 rfl rfl (Nat.le_of_ble_eq_true rfl) (Nat.le_of_ble_eq_true rfl) (Nat.le_of_ble_eq_true rfl) (Nat.le_refl _) (Nat.le_refl _) (c11_1 c5) ?_
    refine ev_purek ?_
    refine ev_invokestatic (pc := 14) (As := [.long v11]) (st := []) (Q2 := ev_pure (.long v14) n F) (bc1 := 0) (bs1 := 0) M_Mo_past d_Mo_stemOf_14 lc_Mo_117 wd_1017 rfl rfl (Nat.le_of_ble_eq_true rfl) (Nat.le_of_ble_eq_true rfl) (Nat.le_of_ble_eq_true rfl) (Nat.le_refl _) (Nat.le_refl _) (c14_2 c5) ?_
    refine ev_purek ?_
    refine ev_lstore_n (pc := 17) d_Mo_stemOf_17 (Nat.le_of_ble_eq_true rfl) [1, 0] rfl ?_
    refine ev_lload_n (pc := 18) d_Mo_stemOf_18 rfl ?_
    refine ev_invokestatic (pc := 19) (As := [.long v14]) (st := []) (Q2 := ev_pure (.int v19) n F) (bc1 := 0) (bs1 := 0) M_Mo_length d_Mo_stemOf_19 lc_Mo_71 wd_992 rfl rfl (Nat.le_of_ble_eq_true rfl) (Nat.le_of_ble_eq_true rfl) (Nat.le_of_ble_eq_true rfl) (Nat.le_refl _) (Nat.le_refl _) (c19_3 c5) ?_
    refine ev_purek ?_
    refine ev_istore (pc := 22) d_Mo_stemOf_22 (Nat.le_of_ble_eq_true rfl) [1, 2, 0] rfl ?_
    refine ev_lload_n (pc := 24) d_Mo_stemOf_24 rfl ?_
    refine ev_iload (pc := 25) d_Mo_stemOf_25 rfl ?_
    refine ev_iconst (pc := 27) 1 d_Mo_stemOf_27 (by decide) ?_
    refine ev_isub (pc := 28) d_Mo_stemOf_28 ?_
    refine ev_invokestatic (pc := 29) (As := [.long v14, .int (v19 - 1)]) (st := []) (Q2 := ev_pure (.int v29) n F) (bc1 := 0) (bs1 := 0) M_Mo_letter d_Mo_stemOf_29 lc_Mo_75 wd_995 rfl rfl (Nat.le_of_ble_eq_true rfl) (Nat.le_of_ble_eq_true rfl) (Nat.le_of_ble_eq_true rfl) (Nat.le_refl _) (Nat.le_refl _) (c29_4 c5) ?_
    refine ev_purek ?_
    refine ev_bipush (pc := 32) 25 d_Mo_stemOf_32 (by decide) ?_
    refine ev_icmp_ne (pc := 34) 52 d_Mo_stemOf_34 (by decide) (fun c34 => ?_) (fun c34 => ?_)
    · refine ev_iconst (pc := 52) 0 d_Mo_stemOf_52 (by decide) ?_
      refine ev_istore (pc := 53) d_Mo_stemOf_53 (Nat.le_of_ble_eq_true rfl) [1, 2, 3, 0] rfl ?_
      refine ev_iload (pc := 55) d_Mo_stemOf_55 rfl ?_
      refine ev_if_eq (pc := 57) 82 d_Mo_stemOf_57 (by decide) (fun _ => ?_) (fun c57 => absurd (by decide) c57)
      refine ev_lload_n (pc := 82) d_Mo_stemOf_82 rfl ?_
      exact ev_lreturn (pc := 83) d_Mo_stemOf_83 rfl (q83_5 c5 c34)
    · refine ev_lload_n (pc := 37) d_Mo_stemOf_37 rfl ?_
      refine ev_iload (pc := 38) d_Mo_stemOf_38 rfl ?_
      refine ev_iconst (pc := 40) 1 d_Mo_stemOf_40 (by decide) ?_
      refine ev_isub (pc := 41) d_Mo_stemOf_41 ?_
      refine ev_invokestatic (pc := 42) (As := [.long v14, .int (v19 - 1)]) (st := []) (Q2 := ev_pure (.int v42) n F) (bc1 := 0) (bs1 := 0) M_Mo_someVowel d_Mo_stemOf_42 lc_Mo_107 wd_1026 rfl rfl (Nat.le_of_ble_eq_true rfl) (Nat.le_of_ble_eq_true rfl) (Nat.le_of_ble_eq_true rfl) (Nat.le_refl _) (Nat.le_refl _) (c42_6 c5 c34) ?_
      refine ev_purek ?_
      refine ev_if_eq (pc := 45) 52 d_Mo_stemOf_45 (by decide) (fun c45 => ?_) (fun c45 => ?_)
      · refine ev_iconst (pc := 52) 0 d_Mo_stemOf_52 (by decide) ?_
        refine ev_istore (pc := 53) d_Mo_stemOf_53 (Nat.le_of_ble_eq_true rfl) [1, 2, 3, 0] rfl ?_
        refine ev_iload (pc := 55) d_Mo_stemOf_55 rfl ?_
        refine ev_if_eq (pc := 57) 82 d_Mo_stemOf_57 (by decide) (fun _ => ?_) (fun c57 => absurd (by decide) c57)
        refine ev_lload_n (pc := 82) d_Mo_stemOf_82 rfl ?_
        exact ev_lreturn (pc := 83) d_Mo_stemOf_83 rfl (q83_7 c5 c34 c45)
      · refine ev_iconst (pc := 48) 1 d_Mo_stemOf_48 (by decide) ?_
        refine ev_goto (pc := 49) 53 d_Mo_stemOf_49 (by decide) ?_
        refine ev_istore (pc := 53) d_Mo_stemOf_53 (Nat.le_of_ble_eq_true rfl) [1, 2, 3, 0] rfl ?_
        refine ev_iload (pc := 55) d_Mo_stemOf_55 rfl ?_
        refine ev_if_eq (pc := 57) 82 d_Mo_stemOf_57 (by decide) (fun c57 => absurd c57 (by decide)) (fun _ => ?_)
        refine ev_lload_n (pc := 60) d_Mo_stemOf_60 rfl ?_
        refine ev_iload (pc := 61) d_Mo_stemOf_61 rfl ?_
        refine ev_iconst (pc := 63) 1 d_Mo_stemOf_63 (by decide) ?_
        refine ev_isub (pc := 64) d_Mo_stemOf_64 ?_
        refine ev_invokestatic (pc := 65) (As := [.long v14, .int (v19 - 1)]) (st := []) (Q2 := ev_pure (.long v65) n F) (bc1 := 0) (bs1 := 0) M_Mo_first d_Mo_stemOf_65 lc_Mo_83 wd_1014 rfl rfl (Nat.le_of_ble_eq_true rfl) (Nat.le_of_ble_eq_true rfl) (Nat.le_of_ble_eq_true rfl) (Nat.le_refl _) (Nat.le_refl _) (c65_8 c5 c34 c45) ?_
        refine ev_purek ?_
        refine ev_ldc2 (pc := 68) (v := 9) d_Mo_stemOf_68 wd_1035 ?_
        refine ev_iconst (pc := 71) 5 d_Mo_stemOf_71 (by decide) ?_
        refine ev_iload (pc := 72) d_Mo_stemOf_72 rfl ?_
        refine ev_iconst (pc := 74) 1 d_Mo_stemOf_74 (by decide) ?_
        refine ev_isub (pc := 75) d_Mo_stemOf_75 ?_
        refine ev_imul (pc := 76) d_Mo_stemOf_76 ?_
        refine ev_lshl (pc := 77) d_Mo_stemOf_77 ?_
        refine ev_lor (pc := 78) d_Mo_stemOf_78 ?_
        refine ev_goto (pc := 79) 83 d_Mo_stemOf_79 (by decide) ?_
        exact ev_lreturn (pc := 83) d_Mo_stemOf_83 rfl (q83_9 c5 c34 c45)
  · refine ev_lload_n (pc := 8) d_Mo_stemOf_8 rfl ?_
    exact ev_lreturn (pc := 9) d_Mo_stemOf_9 rfl (q9_10 c5)
set_option maxRecDepth 100000 in
set_option maxHeartbeats 4000000 in
theorem s_Mo_termOf_0 {l : Launch} {X : ev_X} {bc bs n : Nat} {F : ev_H} {Q : Option Value → Nat → ev_H → Prop} {j0 : Int64} {v1 : Int32} {v12 : Int64} 
    (c1_0 : Cal l X M_Mo_isStop 0 0 [.long j0] n F (ev_pure (.int v1) n F))
    (c12_1 : (v1 = 0) → Cal l X M_Mo_stemOf 0 0 [.long j0] n F (ev_pure (.long v12) n F))
    (q15_2 : (v1 = 0) → Q (some (.long v12)) n F)
    (q15_3 : (¬ v1 = 0) → Q (some (.long 0)) n F) :
    Ev l X M_Mo_termOf bc bs 0 [(0, .long j0)] [] n F (ev_mq X Q) := by
  refine ev_lload_n (pc := 0) d_Mo_termOf_0 rfl ?_
  refine ev_invokestatic (pc := 1) (As := [.long j0]) (st := []) (Q2 := ev_pure (.int v1) n F) (bc1 := 0) (bs1 := 0) M_Mo_isStop d_Mo_termOf_1 lc_Mo_128 wd_1044 rfl rfl (Nat.le_of_ble_eq_true rfl) (Nat.le_of_ble_eq_true rfl) (Nat.le_of_ble_eq_true rfl) (Nat.le_refl _) (Nat.le_refl _) c1_0 ?_
  refine ev_purek ?_
  refine ev_if_eq (pc := 4) 11 d_Mo_termOf_4 (by decide) (fun c4 => ?_) (fun c4 => ?_)
  · refine ev_lload_n (pc := 11) d_Mo_termOf_11 rfl ?_
    refine ev_invokestatic (pc := 12) (As := [.long j0]) (st := []) (Q2 := ev_pure (.long v12) n F) (bc1 := 0) (bs1 := 0) M_Mo_stemOf d_Mo_termOf_12 lc_Mo_125 wd_999 rfl rfl (Nat.le_of_ble_eq_true rfl) (Nat.le_of_ble_eq_true rfl) (Nat.le_of_ble_eq_true rfl) (Nat.le_refl _) (Nat.le_refl _) (c12_1 c4) ?_
    refine ev_purek ?_
    exact ev_lreturn (pc := 15) d_Mo_termOf_15 rfl (q15_2 c4)
  · refine ev_lconst (pc := 7) 0 d_Mo_termOf_7 (by decide) ?_
    refine ev_goto (pc := 8) 15 d_Mo_termOf_8 (by decide) ?_
    exact ev_lreturn (pc := 15) d_Mo_termOf_15 rfl (q15_3 c4)
