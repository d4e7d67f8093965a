set_option maxRecDepth 100000 in
set_option maxHeartbeats 4000000 in
theorem s_La_law_0 {l : Launch} {X : ev_X} {bc bs n : Nat} {F : ev_H} {Z : ev_Z} {rc0 : Nat} {rs0 : Nat} {Q4 : Option Value → Nat → ev_H → Prop} {bc4 : Nat} {bs4 : Nat} {rc4 : Nat} {rs4 : Nat} (hb_rc0 : rc0 + 1 ≤ bc) (hs_rs0 : rs0 + 9 ≤ bs) (hb_rc4 : rc4 + bc4 ≤ rc0) (hs_rs4 : rs4 + bs4 ≤ rs0)
    (c4_0 : Cal l X M_P_init bc4 bs4 [.ref n] (n + 1) (ev_up F n (.inr (0, [.null, .null, .int 0, .null, .null, .null, .null, .null, .null]))) Q4)
    (k7_1 : ∀ v2 n2 F2, Q4 v2 n2 F2 → Ev l X M_Lw rc4 rs4 7 [(0, .ref (X.2.2.2.1 0))] (v2.toList ++ [.ref n]) n2 F2 Z) :
    Ev l X M_Lw bc bs 0 [(0, .ref (X.2.2.2.1 0))] [] n F Z := by
  refine ev_fresh fun fr0 => ?_
  refine ev_new (pc := 0) 0 [.null, .null, .int 0, .null, .null, .null, .null, .null, .null] d_La_law_0 ck_0 wd_27 wd_28 wd_1 (by decide +kernel) (bc2 := rc0) (bs2 := rs0) hb_rc0 hs_rs0 (fun F1_ hF1_ => ?_)
  have g2_ : F1_ n = some (.inr (0, [.null, .null, .int 0, .null, .null, .null, .null, .null, .null])) := by rw [← hF1_]; exact ev_up_s
  refine ev_dup (pc := 3) d_La_law_3 rfl ?_
  exact ev_init (pc := 4) (As := []) (st := [.ref n]) (Q2 := Q4) M_P_init d_La_law_4 lc_La_9 rfl rfl wd_30 rfl rfl (Nat.le_of_ble_eq_true rfl) (Nat.le_of_ble_eq_true rfl) (Nat.le_of_ble_eq_true rfl) hb_rc4 hs_rs4 (by subst hF1_; exact c4_0) k7_1

set_option maxRecDepth 100000 in
set_option maxHeartbeats 4000000 in
theorem s_La_law_18 {l : Launch} {X : ev_X} {bc bs n : Nat} {F : ev_H} {Z : ev_Z} {r1 : Nat} {r2 : Nat} {i3 : Int32} 
    (k564_0 : (((nI X.2.2.2.2.1) - 3) < i3) → Ev l X M_Lw bc bs 564 [(0, .ref (X.2.2.2.1 0)), (1, .ref r1), (2, .ref r2), (3, .int i3)] [] n F Z)
    (in28_1 : (¬ ((nI X.2.2.2.2.1) - 3) < i3) → vp_in i3 X.2.2.2.2.1)
    (k32_2 : (¬ ((nI X.2.2.2.2.1) - 3) < i3) → Ev l X M_Lw bc bs 32 [(0, .ref (X.2.2.2.1 0)), (1, .ref r1), (2, .ref r2), (3, .int i3)] [.int ((X.2.2.2.2.2 i3.toNatClampNeg) &&& 31)] n F Z) :
    Ev l X M_Lw bc bs 18 [(0, .ref (X.2.2.2.1 0)), (1, .ref r1), (2, .ref r2), (3, .int i3)] [] n F Z := by
  refine ev_iload_n (pc := 18) d_La_law_18 rfl ?_
  refine ev_aload_n (pc := 19) d_La_law_19 rfl ?_
  refine ev_slen (pc := 20) d_La_law_20 ?_
  refine ev_iconst (pc := 21) 3 d_La_law_21 (by decide) ?_
  refine ev_isub (pc := 22) d_La_law_22 ?_
  refine ev_icmp_gt (pc := 23) 564 d_La_law_23 (by decide) (fun c23 => ?_) (fun c23 => ?_)
  · exact (k564_0 c23)
  · refine ev_aload_n (pc := 26) d_La_law_26 rfl ?_
    refine ev_iload_n (pc := 27) d_La_law_27 rfl ?_
    refine ev_sld (pc := 28) d_La_law_28 (in28_1 c23) ?_
    refine ev_bipush (pc := 29) 31 d_La_law_29 (by decide) ?_
    refine ev_iand (pc := 31) d_La_law_31 ?_
    exact (k32_2 c23)

set_option maxRecDepth 100000 in
set_option maxHeartbeats 4000000 in
theorem s_La_law_32 {l : Launch} {X : ev_X} {bc bs n : Nat} {F : ev_H} {Z : ev_Z} {r1 : Nat} {r2 : Nat} {i3 : Int32} {is0 : Int32} {ir1_draftWords : Int32} {Q137 : Option Value → Nat → ev_H → Prop} {bc137 : Nat} {bs137 : Nat} {rc137 : Nat} {rs137 : Nat} {Q191 : Option Value → Nat → ev_H → Prop} {bc191 : Nat} {bs191 : Nat} {rc191 : Nat} {rs191 : Nat} {Q229 : Option Value → Nat → ev_H → Prop} {bc229 : Nat} {bs229 : Nat} {rc229 : Nat} {rs229 : Nat} {Q252 : Option Value → Nat → ev_H → Prop} {bc252 : Nat} {bs252 : Nat} {rc252 : Nat} {rs252 : Nat} {Q270 : Option Value → Nat → ev_H → Prop} {bc270 : Nat} {bs270 : Nat} {rc270 : Nat} {rs270 : Nat} {Q288 : Option Value → Nat → ev_H → Prop} {bc288 : Nat} {bs288 : Nat} {rc288 : Nat} {rs288 : Nat} {Q311 : Option Value → Nat → ev_H → Prop} {bc311 : Nat} {bs311 : Nat} {rc311 : Nat} {rs311 : Nat} {Q329 : Option Value → Nat → ev_H → Prop} {bc329 : Nat} {bs329 : Nat} {rc329 : Nat} {rs329 : Nat} {Q362 : Option Value → Nat → ev_H → Prop} {bc362 : Nat} {bs362 : Nat} {rc362 : Nat} {rs362 : Nat} {Q400 : Option Value → Nat → ev_H → Prop} {bc400 : Nat} {bs400 : Nat} {rc400 : Nat} {rs400 : Nat} {Q423 : Option Value → Nat → ev_H → Prop} {bc423 : Nat} {bs423 : Nat} {rc423 : Nat} {rs423 : Nat} {Q441 : Option Value → Nat → ev_H → Prop} {bc441 : Nat} {bs441 : Nat} {rc441 : Nat} {rs441 : Nat} {Q459 : Option Value → Nat → ev_H → Prop} {bc459 : Nat} {bs459 : Nat} {rc459 : Nat} {rs459 : Nat} {Q482 : Option Value → Nat → ev_H → Prop} {bc482 : Nat} {bs482 : Nat} {rc482 : Nat} {rs482 : Nat} {Q505 : Option Value → Nat → ev_H → Prop} {bc505 : Nat} {bs505 : Nat} {rc505 : Nat} {rs505 : Nat} {Q523 : Option Value → Nat → ev_H → Prop} {bc523 : Nat} {bs523 : Nat} {rc523 : Nat} {rs523 : Nat} {Q541 : Option Value → Nat → ev_H → Prop} {bc541 : Nat} {bs541 : Nat} {rc541 : Nat} {rs541 : Nat} (h_r1 : F r1 = some (psO r1 ir1_draftWords)) (hb_rc137 : rc137 + bc137 ≤ bc) (hs_rs137 : rs137 + bs137 ≤ bs) (hb_rc191 : rc191 + bc191 ≤ bc) (hs_rs191 : rs191 + bs191 ≤ bs) (hb_rc229 : rc229 + bc229 ≤ bc) (hs_rs229 : rs229 + bs229 ≤ bs) (hb_rc252 : rc252 + bc252 ≤ bc) (hs_rs252 : rs252 + bs252 ≤ bs) (hb_rc270 : rc270 + bc270 ≤ bc) (hs_rs270 : rs270 + bs270 ≤ bs) (hb_rc288 : rc288 + bc288 ≤ bc) (hs_rs288 : rs288 + bs288 ≤ bs) (hb_rc311 : rc311 + bc311 ≤ bc) (hs_rs311 : rs311 + bs311 ≤ bs) (hb_rc329 : rc329 + bc329 ≤ bc) (hs_rs329 : rs329 + bs329 ≤ bs) (hb_rc362 : rc362 + bc362 ≤ bc) (hs_rs362 : rs362 + bs362 ≤ bs) (hb_rc400 : rc400 + bc400 ≤ bc) (hs_rs400 : rs400 + bs400 ≤ bs) (hb_rc423 : rc423 + bc423 ≤ bc) (hs_rs423 : rs423 + bs423 ≤ bs) (hb_rc441 : rc441 + bc441 ≤ bc) (hs_rs441 : rs441 + bs441 ≤ bs) (hb_rc459 : rc459 + bc459 ≤ bc) (hs_rs459 : rs459 + bs459 ≤ bs) (hb_rc482 : rc482 + bc482 ≤ bc) (hs_rs482 : rs482 + bs482 ≤ bs) (hb_rc505 : rc505 + bc505 ≤ bc) (hs_rs505 : rs505 + bs505 ≤ bs) (hb_rc523 : rc523 + bc523 ≤ bc) (hs_rs523 : rs523 + bs523 ≤ bs) (hb_rc541 : rc541 + bc541 ≤ bc) (hs_rs541 : rs541 + bs541 ≤ bs)
    (in121_0 : (is0 = 0) → vp_in (i3 + 1) X.2.2.2.2.1)
    (in130_1 : (is0 = 0) → vp_in (i3 + 2) X.2.2.2.2.1)
    (c137_2 : (is0 = 0) → Cal l X M_P_stem bc137 bs137 [.ref r1, .long ((((X.2.2.2.2.2 (i3 + 1).toNatClampNeg).toInt64) <<< ((32 : Int32).toInt64 &&& 63)) ||| (((X.2.2.2.2.2 (i3 + 2).toNatClampNeg).toInt64) &&& 4294967295))] n F Q137)
    (k140_3 : (is0 = 0) → ∀ v2 n2 F2, Q137 v2 n2 F2 → Ev l X M_Lw rc137 rs137 140 [(0, .ref (X.2.2.2.1 0)), (1, .ref r1), (2, .ref r2), (3, .int i3)] (v2.toList ++ []) n2 F2 Z)
    (in175_4 : (¬ is0 = 0) → (is0 = 1) → vp_in (i3 + 1) X.2.2.2.2.1)
    (in184_5 : (¬ is0 = 0) → (is0 = 1) → vp_in (i3 + 2) X.2.2.2.2.1)
    (c191_6 : (¬ is0 = 0) → (is0 = 1) → Cal l X M_P_feed bc191 bs191 [.ref r1, .long ((((X.2.2.2.2.2 (i3 + 1).toNatClampNeg).toInt64) <<< ((32 : Int32).toInt64 &&& 63)) ||| (((X.2.2.2.2.2 (i3 + 2).toNatClampNeg).toInt64) &&& 4294967295))] n F Q191)
    (k194_7 : (¬ is0 = 0) → (is0 = 1) → ∀ v2 n2 F2, Q191 v2 n2 F2 → Ev l X M_Lw rc191 rs191 194 [(0, .ref (X.2.2.2.1 0)), (1, .ref r1), (2, .ref r2), (3, .int i3)] (v2.toList ++ []) n2 F2 Z)
    (in228_8 : (¬ is0 = 0) → (¬ is0 = 1) → (is0 = 2) → vp_in (i3 + 1) X.2.2.2.2.1)
    (c229_9 : (¬ is0 = 0) → (¬ is0 = 1) → (is0 = 2) → Cal l X M_P_add bc229 bs229 [.ref r1, .int (X.2.2.2.2.2 (i3 + 1).toNatClampNeg)] n F Q229)
    (k232_10 : (¬ is0 = 0) → (¬ is0 = 1) → (is0 = 2) → ∀ v2 n2 F2, Q229 v2 n2 F2 → Ev l X M_Lw rc229 rs229 232 [(0, .ref (X.2.2.2.1 0)), (1, .ref r1), (2, .ref r2), (3, .int i3)] (v2.toList ++ []) n2 F2 Z)
    (in251_11 : (¬ is0 = 0) → (¬ is0 = 1) → (¬ is0 = 2) → (is0 = 3) → vp_in (i3 + 1) X.2.2.2.2.1)
    (c252_12 : (¬ is0 = 0) → (¬ is0 = 1) → (¬ is0 = 2) → (is0 = 3) → Cal l X M_P_delete bc252 bs252 [.ref r1, .int (X.2.2.2.2.2 (i3 + 1).toNatClampNeg)] n F Q252)
    (k255_13 : (¬ is0 = 0) → (¬ is0 = 1) → (¬ is0 = 2) → (is0 = 3) → ∀ v2 n2 F2, Q252 v2 n2 F2 → Ev l X M_Lw rc252 rs252 255 [(0, .ref (X.2.2.2.1 0)), (1, .ref r1), (2, .ref r2), (3, .int i3)] (v2.toList ++ []) n2 F2 Z)
    (c270_14 : (¬ is0 = 0) → (¬ is0 = 1) → (¬ is0 = 2) → (¬ is0 = 3) → (is0 = 4) → Cal l X M_P_commit bc270 bs270 [.ref r1] n F Q270)
    (k273_15 : (¬ is0 = 0) → (¬ is0 = 1) → (¬ is0 = 2) → (¬ is0 = 3) → (is0 = 4) → ∀ v2 n2 F2, Q270 v2 n2 F2 → Ev l X M_Lw rc270 rs270 273 [(0, .ref (X.2.2.2.1 0)), (1, .ref r1), (2, .ref r2), (3, .int i3)] (v2.toList ++ []) n2 F2 Z)
    (in287_16 : (¬ is0 = 0) → (¬ is0 = 1) → (¬ is0 = 2) → (¬ is0 = 3) → (¬ is0 = 4) → (is0 = 5) → vp_in (i3 + 1) X.2.2.2.2.1)
    (c288_17 : (¬ is0 = 0) → (¬ is0 = 1) → (¬ is0 = 2) → (¬ is0 = 3) → (¬ is0 = 4) → (is0 = 5) → Cal l X M_P_merge bc288 bs288 [.ref r1, .int (X.2.2.2.2.2 (i3 + 1).toNatClampNeg)] n F Q288)
    (k291_18 : (¬ is0 = 0) → (¬ is0 = 1) → (¬ is0 = 2) → (¬ is0 = 3) → (¬ is0 = 4) → (is0 = 5) → ∀ v2 n2 F2, Q288 v2 n2 F2 → Ev l X M_Lw rc288 rs288 291 [(0, .ref (X.2.2.2.1 0)), (1, .ref r1), (2, .ref r2), (3, .int i3)] (v2.toList ++ []) n2 F2 Z)
    (in310_19 : (¬ is0 = 0) → (¬ is0 = 1) → (¬ is0 = 2) → (¬ is0 = 3) → (¬ is0 = 4) → (¬ is0 = 5) → (is0 = 6) → vp_in (i3 + 1) X.2.2.2.2.1)
    (c311_20 : (¬ is0 = 0) → (¬ is0 = 1) → (¬ is0 = 2) → (¬ is0 = 3) → (¬ is0 = 4) → (¬ is0 = 5) → (is0 = 6) → Cal l X M_P_fuse bc311 bs311 [.ref r1, .int (X.2.2.2.2.2 (i3 + 1).toNatClampNeg)] n F Q311)
    (k314_21 : (¬ is0 = 0) → (¬ is0 = 1) → (¬ is0 = 2) → (¬ is0 = 3) → (¬ is0 = 4) → (¬ is0 = 5) → (is0 = 6) → ∀ v2 n2 F2, Q311 v2 n2 F2 → Ev l X M_Lw rc311 rs311 314 [(0, .ref (X.2.2.2.1 0)), (1, .ref r1), (2, .ref r2), (3, .int i3)] (v2.toList ++ []) n2 F2 Z)
    (c329_22 : (¬ is0 = 0) → (¬ is0 = 1) → (¬ is0 = 2) → (¬ is0 = 3) → (¬ is0 = 4) → (¬ is0 = 5) → (¬ is0 = 6) → (is0 = 7) → Cal l X M_P_restart bc329 bs329 [.ref r1] n F Q329)
    (k332_23 : (¬ is0 = 0) → (¬ is0 = 1) → (¬ is0 = 2) → (¬ is0 = 3) → (¬ is0 = 4) → (¬ is0 = 5) → (¬ is0 = 6) → (is0 = 7) → ∀ v2 n2 F2, Q329 v2 n2 F2 → Ev l X M_Lw rc329 rs329 332 [(0, .ref (X.2.2.2.1 0)), (1, .ref r1), (2, .ref r2), (3, .int i3)] (v2.toList ++ []) n2 F2 Z)
    (in346_24 : (¬ is0 = 0) → (¬ is0 = 1) → (¬ is0 = 2) → (¬ is0 = 3) → (¬ is0 = 4) → (¬ is0 = 5) → (¬ is0 = 6) → (¬ is0 = 7) → (is0 = 8) → vp_in (i3 + 1) X.2.2.2.2.1)
    (in355_25 : (¬ is0 = 0) → (¬ is0 = 1) → (¬ is0 = 2) → (¬ is0 = 3) → (¬ is0 = 4) → (¬ is0 = 5) → (¬ is0 = 6) → (¬ is0 = 7) → (is0 = 8) → vp_in (i3 + 2) X.2.2.2.2.1)
    (c362_26 : (¬ is0 = 0) → (¬ is0 = 1) → (¬ is0 = 2) → (¬ is0 = 3) → (¬ is0 = 4) → (¬ is0 = 5) → (¬ is0 = 6) → (¬ is0 = 7) → (is0 = 8) → Cal l X M_P_term bc362 bs362 [.ref r1, .long ((((X.2.2.2.2.2 (i3 + 1).toNatClampNeg).toInt64) <<< ((32 : Int32).toInt64 &&& 63)) ||| (((X.2.2.2.2.2 (i3 + 2).toNatClampNeg).toInt64) &&& 4294967295))] n F Q362)
    (k365_27 : (¬ is0 = 0) → (¬ is0 = 1) → (¬ is0 = 2) → (¬ is0 = 3) → (¬ is0 = 4) → (¬ is0 = 5) → (¬ is0 = 6) → (¬ is0 = 7) → (is0 = 8) → ∀ v2 n2 F2, Q362 v2 n2 F2 → Ev l X M_Lw rc362 rs362 365 [(0, .ref (X.2.2.2.1 0)), (1, .ref r1), (2, .ref r2), (3, .int i3)] (v2.toList ++ []) n2 F2 Z)
    (in399_28 : (¬ is0 = 0) → (¬ is0 = 1) → (¬ is0 = 2) → (¬ is0 = 3) → (¬ is0 = 4) → (¬ is0 = 5) → (¬ is0 = 6) → (¬ is0 = 7) → (¬ is0 = 8) → (is0 = 9) → vp_in (i3 + 1) X.2.2.2.2.1)
    (c400_29 : (¬ is0 = 0) → (¬ is0 = 1) → (¬ is0 = 2) → (¬ is0 = 3) → (¬ is0 = 4) → (¬ is0 = 5) → (¬ is0 = 6) → (¬ is0 = 7) → (¬ is0 = 8) → (is0 = 9) → Cal l X M_P_phrase bc400 bs400 [.ref r1, .int (X.2.2.2.2.2 (i3 + 1).toNatClampNeg)] n F Q400)
    (k403_30 : (¬ is0 = 0) → (¬ is0 = 1) → (¬ is0 = 2) → (¬ is0 = 3) → (¬ is0 = 4) → (¬ is0 = 5) → (¬ is0 = 6) → (¬ is0 = 7) → (¬ is0 = 8) → (is0 = 9) → ∀ v2 n2 F2, Q400 v2 n2 F2 → Ev l X M_Lw rc400 rs400 403 [(0, .ref (X.2.2.2.1 0)), (1, .ref r1), (2, .ref r2), (3, .int i3)] (v2.toList ++ []) n2 F2 Z)
    (in422_31 : (¬ is0 = 0) → (¬ is0 = 1) → (¬ is0 = 2) → (¬ is0 = 3) → (¬ is0 = 4) → (¬ is0 = 5) → (¬ is0 = 6) → (¬ is0 = 7) → (¬ is0 = 8) → (¬ is0 = 9) → (is0 = 10) → vp_in (i3 + 1) X.2.2.2.2.1)
    (c423_32 : (¬ is0 = 0) → (¬ is0 = 1) → (¬ is0 = 2) → (¬ is0 = 3) → (¬ is0 = 4) → (¬ is0 = 5) → (¬ is0 = 6) → (¬ is0 = 7) → (¬ is0 = 8) → (¬ is0 = 9) → (is0 = 10) → Cal l X M_P_join bc423 bs423 [.ref r1, .int (X.2.2.2.2.2 (i3 + 1).toNatClampNeg)] n F Q423)
    (k426_33 : (¬ is0 = 0) → (¬ is0 = 1) → (¬ is0 = 2) → (¬ is0 = 3) → (¬ is0 = 4) → (¬ is0 = 5) → (¬ is0 = 6) → (¬ is0 = 7) → (¬ is0 = 8) → (¬ is0 = 9) → (is0 = 10) → ∀ v2 n2 F2, Q423 v2 n2 F2 → Ev l X M_Lw rc423 rs423 426 [(0, .ref (X.2.2.2.1 0)), (1, .ref r1), (2, .ref r2), (3, .int i3)] (v2.toList ++ []) n2 F2 Z)
    (c441_34 : (¬ is0 = 0) → (¬ is0 = 1) → (¬ is0 = 2) → (¬ is0 = 3) → (¬ is0 = 4) → (¬ is0 = 5) → (¬ is0 = 6) → (¬ is0 = 7) → (¬ is0 = 8) → (¬ is0 = 9) → (¬ is0 = 10) → (is0 = 11) → Cal l X M_P_find bc441 bs441 [.ref r1] n F Q441)
    (k444_35 : (¬ is0 = 0) → (¬ is0 = 1) → (¬ is0 = 2) → (¬ is0 = 3) → (¬ is0 = 4) → (¬ is0 = 5) → (¬ is0 = 6) → (¬ is0 = 7) → (¬ is0 = 8) → (¬ is0 = 9) → (¬ is0 = 10) → (is0 = 11) → ∀ v2 n2 F2, Q441 v2 n2 F2 → Ev l X M_Lw rc441 rs441 444 [(0, .ref (X.2.2.2.1 0)), (1, .ref r1), (2, .ref r2), (3, .int i3)] (v2.toList ++ []) n2 F2 Z)
    (in458_36 : (¬ is0 = 0) → (¬ is0 = 1) → (¬ is0 = 2) → (¬ is0 = 3) → (¬ is0 = 4) → (¬ is0 = 5) → (¬ is0 = 6) → (¬ is0 = 7) → (¬ is0 = 8) → (¬ is0 = 9) → (¬ is0 = 10) → (¬ is0 = 11) → (is0 = 12) → vp_in (i3 + 1) X.2.2.2.2.1)
    (c459_37 : (¬ is0 = 0) → (¬ is0 = 1) → (¬ is0 = 2) → (¬ is0 = 3) → (¬ is0 = 4) → (¬ is0 = 5) → (¬ is0 = 6) → (¬ is0 = 7) → (¬ is0 = 8) → (¬ is0 = 9) → (¬ is0 = 10) → (¬ is0 = 11) → (is0 = 12) → Cal l X M_P_rank bc459 bs459 [.ref r1, .int (X.2.2.2.2.2 (i3 + 1).toNatClampNeg)] n F Q459)
    (k462_38 : (¬ is0 = 0) → (¬ is0 = 1) → (¬ is0 = 2) → (¬ is0 = 3) → (¬ is0 = 4) → (¬ is0 = 5) → (¬ is0 = 6) → (¬ is0 = 7) → (¬ is0 = 8) → (¬ is0 = 9) → (¬ is0 = 10) → (¬ is0 = 11) → (is0 = 12) → ∀ v2 n2 F2, Q459 v2 n2 F2 → Ev l X M_Lw rc459 rs459 462 [(0, .ref (X.2.2.2.1 0)), (1, .ref r1), (2, .ref r2), (3, .int i3)] (v2.toList ++ []) n2 F2 Z)
    (in481_39 : (¬ is0 = 0) → (¬ is0 = 1) → (¬ is0 = 2) → (¬ is0 = 3) → (¬ is0 = 4) → (¬ is0 = 5) → (¬ is0 = 6) → (¬ is0 = 7) → (¬ is0 = 8) → (¬ is0 = 9) → (¬ is0 = 10) → (¬ is0 = 11) → (¬ is0 = 12) → (is0 = 13) → vp_in (i3 + 1) X.2.2.2.2.1)
    (c482_40 : (¬ is0 = 0) → (¬ is0 = 1) → (¬ is0 = 2) → (¬ is0 = 3) → (¬ is0 = 4) → (¬ is0 = 5) → (¬ is0 = 6) → (¬ is0 = 7) → (¬ is0 = 8) → (¬ is0 = 9) → (¬ is0 = 10) → (¬ is0 = 11) → (¬ is0 = 12) → (is0 = 13) → Cal l X M_P_result bc482 bs482 [.ref r1, .int (X.2.2.2.2.2 (i3 + 1).toNatClampNeg)] n F Q482)
    (k485_41 : (¬ is0 = 0) → (¬ is0 = 1) → (¬ is0 = 2) → (¬ is0 = 3) → (¬ is0 = 4) → (¬ is0 = 5) → (¬ is0 = 6) → (¬ is0 = 7) → (¬ is0 = 8) → (¬ is0 = 9) → (¬ is0 = 10) → (¬ is0 = 11) → (¬ is0 = 12) → (is0 = 13) → ∀ v2 n2 F2, Q482 v2 n2 F2 → Ev l X M_Lw rc482 rs482 485 [(0, .ref (X.2.2.2.1 0)), (1, .ref r1), (2, .ref r2), (3, .int i3)] (v2.toList ++ []) n2 F2 Z)
    (in504_42 : (¬ is0 = 0) → (¬ is0 = 1) → (¬ is0 = 2) → (¬ is0 = 3) → (¬ is0 = 4) → (¬ is0 = 5) → (¬ is0 = 6) → (¬ is0 = 7) → (¬ is0 = 8) → (¬ is0 = 9) → (¬ is0 = 10) → (¬ is0 = 11) → (¬ is0 = 12) → (¬ is0 = 13) → (is0 = 14) → vp_in (i3 + 1) X.2.2.2.2.1)
    (c505_43 : (¬ is0 = 0) → (¬ is0 = 1) → (¬ is0 = 2) → (¬ is0 = 3) → (¬ is0 = 4) → (¬ is0 = 5) → (¬ is0 = 6) → (¬ is0 = 7) → (¬ is0 = 8) → (¬ is0 = 9) → (¬ is0 = 10) → (¬ is0 = 11) → (¬ is0 = 12) → (¬ is0 = 13) → (is0 = 14) → Cal l X M_P_weight bc505 bs505 [.ref r1, .int (X.2.2.2.2.2 (i3 + 1).toNatClampNeg)] n F Q505)
    (k508_44 : (¬ is0 = 0) → (¬ is0 = 1) → (¬ is0 = 2) → (¬ is0 = 3) → (¬ is0 = 4) → (¬ is0 = 5) → (¬ is0 = 6) → (¬ is0 = 7) → (¬ is0 = 8) → (¬ is0 = 9) → (¬ is0 = 10) → (¬ is0 = 11) → (¬ is0 = 12) → (¬ is0 = 13) → (is0 = 14) → ∀ v2 n2 F2, Q505 v2 n2 F2 → Ev l X M_Lw rc505 rs505 508 [(0, .ref (X.2.2.2.1 0)), (1, .ref r1), (2, .ref r2), (3, .int i3)] (v2.toList ++ []) n2 F2 Z)
    (c523_45 : (¬ is0 = 0) → (¬ is0 = 1) → (¬ is0 = 2) → (¬ is0 = 3) → (¬ is0 = 4) → (¬ is0 = 5) → (¬ is0 = 6) → (¬ is0 = 7) → (¬ is0 = 8) → (¬ is0 = 9) → (¬ is0 = 10) → (¬ is0 = 11) → (¬ is0 = 12) → (¬ is0 = 13) → (¬ is0 = 14) → (is0 = 15) → Cal l X M_P_weighed bc523 bs523 [.ref r1] n F Q523)
    (k526_46 : (¬ is0 = 0) → (¬ is0 = 1) → (¬ is0 = 2) → (¬ is0 = 3) → (¬ is0 = 4) → (¬ is0 = 5) → (¬ is0 = 6) → (¬ is0 = 7) → (¬ is0 = 8) → (¬ is0 = 9) → (¬ is0 = 10) → (¬ is0 = 11) → (¬ is0 = 12) → (¬ is0 = 13) → (¬ is0 = 14) → (is0 = 15) → ∀ v2 n2 F2, Q523 v2 n2 F2 → Ev l X M_Lw rc523 rs523 526 [(0, .ref (X.2.2.2.1 0)), (1, .ref r1), (2, .ref r2), (3, .int i3)] (v2.toList ++ []) n2 F2 Z)
    (in540_47 : (¬ is0 = 0) → (¬ is0 = 1) → (¬ is0 = 2) → (¬ is0 = 3) → (¬ is0 = 4) → (¬ is0 = 5) → (¬ is0 = 6) → (¬ is0 = 7) → (¬ is0 = 8) → (¬ is0 = 9) → (¬ is0 = 10) → (¬ is0 = 11) → (¬ is0 = 12) → (¬ is0 = 13) → (¬ is0 = 14) → (¬ is0 = 15) → (is0 = 16) → vp_in (i3 + 1) X.2.2.2.2.1)
    (c541_48 : (¬ is0 = 0) → (¬ is0 = 1) → (¬ is0 = 2) → (¬ is0 = 3) → (¬ is0 = 4) → (¬ is0 = 5) → (¬ is0 = 6) → (¬ is0 = 7) → (¬ is0 = 8) → (¬ is0 = 9) → (¬ is0 = 10) → (¬ is0 = 11) → (¬ is0 = 12) → (¬ is0 = 13) → (¬ is0 = 14) → (¬ is0 = 15) → (is0 = 16) → Cal l X M_P_size bc541 bs541 [.ref r1, .int (X.2.2.2.2.2 (i3 + 1).toNatClampNeg)] n F Q541)
    (k544_49 : (¬ is0 = 0) → (¬ is0 = 1) → (¬ is0 = 2) → (¬ is0 = 3) → (¬ is0 = 4) → (¬ is0 = 5) → (¬ is0 = 6) → (¬ is0 = 7) → (¬ is0 = 8) → (¬ is0 = 9) → (¬ is0 = 10) → (¬ is0 = 11) → (¬ is0 = 12) → (¬ is0 = 13) → (¬ is0 = 14) → (¬ is0 = 15) → (is0 = 16) → ∀ v2 n2 F2, Q541 v2 n2 F2 → Ev l X M_Lw rc541 rs541 544 [(0, .ref (X.2.2.2.1 0)), (1, .ref r1), (2, .ref r2), (3, .int i3)] (v2.toList ++ []) n2 F2 Z)
    (sw32_50 : (¬ is0 = 0) → (¬ is0 = 1) → (¬ is0 = 2) → (¬ is0 = 3) → (¬ is0 = 4) → (¬ is0 = 5) → (¬ is0 = 6) → (¬ is0 = 7) → (¬ is0 = 8) → (¬ is0 = 9) → (¬ is0 = 10) → (¬ is0 = 11) → (¬ is0 = 12) → (¬ is0 = 13) → (¬ is0 = 14) → (¬ is0 = 15) → (¬ is0 = 16) → is0.toInt < 0 ∨ 16 < is0.toInt)
    (k558_51 : (¬ is0 = 0) → (¬ is0 = 1) → (¬ is0 = 2) → (¬ is0 = 3) → (¬ is0 = 4) → (¬ is0 = 5) → (¬ is0 = 6) → (¬ is0 = 7) → (¬ is0 = 8) → (¬ is0 = 9) → (¬ is0 = 10) → (¬ is0 = 11) → (¬ is0 = 12) → (¬ is0 = 13) → (¬ is0 = 14) → (¬ is0 = 15) → (¬ is0 = 16) → Ev l X M_Lw bc bs 558 [(0, .ref (X.2.2.2.1 0)), (1, .ref r1), (2, .ref r2), (3, .int i3)] [] n F Z) :
    Ev l X M_Lw bc bs 32 [(0, .ref (X.2.2.2.1 0)), (1, .ref r1), (2, .ref r2), (3, .int i3)] [.int is0] n F Z := by
  refine ev_swk (pc := 32) 0 0 116 d_La_law_32 (by decide) (by decide) rfl (by decide) (fun c32_0 => ?_) (fun c32_0 => ?_)
  · refine ev_aload_n (pc := 116) d_La_law_116 rfl ?_
    refine ev_aload_n (pc := 117) d_La_law_117 rfl ?_
    refine ev_iload_n (pc := 118) d_La_law_118 rfl ?_
    refine ev_iconst (pc := 119) 1 d_La_law_119 (by decide) ?_
    refine ev_iadd (pc := 120) d_La_law_120 ?_
    refine ev_sld (pc := 121) d_La_law_121 (in121_0 c32_0) ?_
    refine ev_i2l (pc := 122) d_La_law_122 ?_
    refine ev_bipush (pc := 123) 32 d_La_law_123 (by decide) ?_
    refine ev_lshl (pc := 125) d_La_law_125 ?_
    refine ev_aload_n (pc := 126) d_La_law_126 rfl ?_
    refine ev_iload_n (pc := 127) d_La_law_127 rfl ?_
    refine ev_iconst (pc := 128) 2 d_La_law_128 (by decide) ?_
    refine ev_iadd (pc := 129) d_La_law_129 ?_
    refine ev_sld (pc := 130) d_La_law_130 (in130_1 c32_0) ?_
    refine ev_i2l (pc := 131) d_La_law_131 ?_
    refine ev_ldc2 (pc := 132) (v := 4294967295) d_La_law_132 wd_1202 ?_
    refine ev_land (pc := 135) d_La_law_135 ?_
    refine ev_lor (pc := 136) d_La_law_136 ?_
    exact ev_invokevirtual (pc := 137) (As := [.long ((((X.2.2.2.2.2 (i3 + 1).toNatClampNeg).toInt64) <<< ((32 : Int32).toInt64 &&& 63)) ||| (((X.2.2.2.2.2 (i3 + 2).toNatClampNeg).toInt64) &&& 4294967295))]) (st := []) (Q2 := Q137) M_P_stem rC0 d_La_law_137 lc_La_15 wd_224 wd_225 rfl h_r1 rfl rfl (Nat.le_of_ble_eq_true rfl) (Nat.le_of_ble_eq_true rfl) (Nat.le_of_ble_eq_true rfl) hb_rc137 hs_rs137 (c137_2 c32_0) (k140_3 c32_0)
  refine ev_swk (pc := 32) 1 1 170 d_La_law_32 (by decide) (by decide) rfl (by decide) (fun c32_1 => ?_) (fun c32_1 => ?_)
  · refine ev_aload_n (pc := 170) d_La_law_170 rfl ?_
    refine ev_aload_n (pc := 171) d_La_law_171 rfl ?_
    refine ev_iload_n (pc := 172) d_La_law_172 rfl ?_
    refine ev_iconst (pc := 173) 1 d_La_law_173 (by decide) ?_
    refine ev_iadd (pc := 174) d_La_law_174 ?_
    refine ev_sld (pc := 175) d_La_law_175 (in175_4 c32_0 c32_1) ?_
    refine ev_i2l (pc := 176) d_La_law_176 ?_
    refine ev_bipush (pc := 177) 32 d_La_law_177 (by decide) ?_
    refine ev_lshl (pc := 179) d_La_law_179 ?_
    refine ev_aload_n (pc := 180) d_La_law_180 rfl ?_
    refine ev_iload_n (pc := 181) d_La_law_181 rfl ?_
    refine ev_iconst (pc := 182) 2 d_La_law_182 (by decide) ?_
    refine ev_iadd (pc := 183) d_La_law_183 ?_
    refine ev_sld (pc := 184) d_La_law_184 (in184_5 c32_0 c32_1) ?_
    refine ev_i2l (pc := 185) d_La_law_185 ?_
    refine ev_ldc2 (pc := 186) (v := 4294967295) d_La_law_186 wd_1202 ?_
    refine ev_land (pc := 189) d_La_law_189 ?_
    refine ev_lor (pc := 190) d_La_law_190 ?_
    exact ev_invokevirtual (pc := 191) (As := [.long ((((X.2.2.2.2.2 (i3 + 1).toNatClampNeg).toInt64) <<< ((32 : Int32).toInt64 &&& 63)) ||| (((X.2.2.2.2.2 (i3 + 2).toNatClampNeg).toInt64) &&& 4294967295))]) (st := []) (Q2 := Q191) M_P_feed rC0 d_La_law_191 lc_La_20 wd_408 wd_409 rfl h_r1 rfl rfl (Nat.le_of_ble_eq_true rfl) (Nat.le_of_ble_eq_true rfl) (Nat.le_of_ble_eq_true rfl) hb_rc191 hs_rs191 (c191_6 c32_0 c32_1) (k194_7 c32_0 c32_1)
  refine ev_swk (pc := 32) 2 2 223 d_La_law_32 (by decide) (by decide) rfl (by decide) (fun c32_2 => ?_) (fun c32_2 => ?_)
  · refine ev_aload_n (pc := 223) d_La_law_223 rfl ?_
    refine ev_aload_n (pc := 224) d_La_law_224 rfl ?_
    refine ev_iload_n (pc := 225) d_La_law_225 rfl ?_
    refine ev_iconst (pc := 226) 1 d_La_law_226 (by decide) ?_
    refine ev_iadd (pc := 227) d_La_law_227 ?_
    refine ev_sld (pc := 228) d_La_law_228 (in228_8 c32_0 c32_1 c32_2) ?_
    exact ev_invokevirtual (pc := 229) (As := [.int (X.2.2.2.2.2 (i3 + 1).toNatClampNeg)]) (st := []) (Q2 := Q229) M_P_add rC0 d_La_law_229 lc_La_25 wd_422 wd_423 rfl h_r1 rfl rfl (Nat.le_of_ble_eq_true rfl) (Nat.le_of_ble_eq_true rfl) (Nat.le_of_ble_eq_true rfl) hb_rc229 hs_rs229 (c229_9 c32_0 c32_1 c32_2) (k232_10 c32_0 c32_1 c32_2)
  refine ev_swk (pc := 32) 3 3 246 d_La_law_32 (by decide) (by decide) rfl (by decide) (fun c32_3 => ?_) (fun c32_3 => ?_)
  · refine ev_aload_n (pc := 246) d_La_law_246 rfl ?_
    refine ev_aload_n (pc := 247) d_La_law_247 rfl ?_
    refine ev_iload_n (pc := 248) d_La_law_248 rfl ?_
    refine ev_iconst (pc := 249) 1 d_La_law_249 (by decide) ?_
    refine ev_iadd (pc := 250) d_La_law_250 ?_
    refine ev_sld (pc := 251) d_La_law_251 (in251_11 c32_0 c32_1 c32_2 c32_3) ?_
    exact ev_invokevirtual (pc := 252) (As := [.int (X.2.2.2.2.2 (i3 + 1).toNatClampNeg)]) (st := []) (Q2 := Q252) M_P_delete rC0 d_La_law_252 lc_La_30 wd_557 wd_558 rfl h_r1 rfl rfl (Nat.le_of_ble_eq_true rfl) (Nat.le_of_ble_eq_true rfl) (Nat.le_of_ble_eq_true rfl) hb_rc252 hs_rs252 (c252_12 c32_0 c32_1 c32_2 c32_3) (k255_13 c32_0 c32_1 c32_2 c32_3)
  refine ev_swk (pc := 32) 4 4 269 d_La_law_32 (by decide) (by decide) rfl (by decide) (fun c32_4 => ?_) (fun c32_4 => ?_)
  · refine ev_aload_n (pc := 269) d_La_law_269 rfl ?_
    exact ev_invokevirtual (pc := 270) (As := []) (st := []) (Q2 := Q270) M_P_commit rC0 d_La_law_270 lc_La_34 wd_565 wd_566 rfl h_r1 rfl rfl (Nat.le_of_ble_eq_true rfl) (Nat.le_of_ble_eq_true rfl) (Nat.le_of_ble_eq_true rfl) hb_rc270 hs_rs270 (c270_14 c32_0 c32_1 c32_2 c32_3 c32_4) (k273_15 c32_0 c32_1 c32_2 c32_3 c32_4)
  refine ev_swk (pc := 32) 5 5 282 d_La_law_32 (by decide) (by decide) rfl (by decide) (fun c32_5 => ?_) (fun c32_5 => ?_)
  · refine ev_aload_n (pc := 282) d_La_law_282 rfl ?_
    refine ev_aload_n (pc := 283) d_La_law_283 rfl ?_
    refine ev_iload_n (pc := 284) d_La_law_284 rfl ?_
    refine ev_iconst (pc := 285) 1 d_La_law_285 (by decide) ?_
    refine ev_iadd (pc := 286) d_La_law_286 ?_
    refine ev_sld (pc := 287) d_La_law_287 (in287_16 c32_0 c32_1 c32_2 c32_3 c32_4 c32_5) ?_
    exact ev_invokevirtual (pc := 288) (As := [.int (X.2.2.2.2.2 (i3 + 1).toNatClampNeg)]) (st := []) (Q2 := Q288) M_P_merge rC0 d_La_law_288 lc_La_39 wd_654 wd_655 rfl h_r1 rfl rfl (Nat.le_of_ble_eq_true rfl) (Nat.le_of_ble_eq_true rfl) (Nat.le_of_ble_eq_true rfl) hb_rc288 hs_rs288 (c288_17 c32_0 c32_1 c32_2 c32_3 c32_4 c32_5) (k291_18 c32_0 c32_1 c32_2 c32_3 c32_4 c32_5)
  refine ev_swk (pc := 32) 6 6 305 d_La_law_32 (by decide) (by decide) rfl (by decide) (fun c32_6 => ?_) (fun c32_6 => ?_)
  · refine ev_aload_n (pc := 305) d_La_law_305 rfl ?_
    refine ev_aload_n (pc := 306) d_La_law_306 rfl ?_
    refine ev_iload_n (pc := 307) d_La_law_307 rfl ?_
    refine ev_iconst (pc := 308) 1 d_La_law_308 (by decide) ?_
    refine ev_iadd (pc := 309) d_La_law_309 ?_
    refine ev_sld (pc := 310) d_La_law_310 (in310_19 c32_0 c32_1 c32_2 c32_3 c32_4 c32_5 c32_6) ?_
    exact ev_invokevirtual (pc := 311) (As := [.int (X.2.2.2.2.2 (i3 + 1).toNatClampNeg)]) (st := []) (Q2 := Q311) M_P_fuse rC0 d_La_law_311 lc_La_43 wd_683 wd_684 rfl h_r1 rfl rfl (Nat.le_of_ble_eq_true rfl) (Nat.le_of_ble_eq_true rfl) (Nat.le_of_ble_eq_true rfl) hb_rc311 hs_rs311 (c311_20 c32_0 c32_1 c32_2 c32_3 c32_4 c32_5 c32_6) (k314_21 c32_0 c32_1 c32_2 c32_3 c32_4 c32_5 c32_6)
  refine ev_swk (pc := 32) 7 7 328 d_La_law_32 (by decide) (by decide) rfl (by decide) (fun c32_7 => ?_) (fun c32_7 => ?_)
  · refine ev_aload_n (pc := 328) d_La_law_328 rfl ?_
    exact ev_invokevirtual (pc := 329) (As := []) (st := []) (Q2 := Q329) M_P_restart rC0 d_La_law_329 lc_La_48 wd_687 wd_688 rfl h_r1 rfl rfl (Nat.le_of_ble_eq_true rfl) (Nat.le_of_ble_eq_true rfl) (Nat.le_of_ble_eq_true rfl) hb_rc329 hs_rs329 (c329_22 c32_0 c32_1 c32_2 c32_3 c32_4 c32_5 c32_6 c32_7) (k332_23 c32_0 c32_1 c32_2 c32_3 c32_4 c32_5 c32_6 c32_7)
  refine ev_swk (pc := 32) 8 8 341 d_La_law_32 (by decide) (by decide) rfl (by decide) (fun c32_8 => ?_) (fun c32_8 => ?_)
  · refine ev_aload_n (pc := 341) d_La_law_341 rfl ?_
    refine ev_aload_n (pc := 342) d_La_law_342 rfl ?_
    refine ev_iload_n (pc := 343) d_La_law_343 rfl ?_
    refine ev_iconst (pc := 344) 1 d_La_law_344 (by decide) ?_
    refine ev_iadd (pc := 345) d_La_law_345 ?_
    refine ev_sld (pc := 346) d_La_law_346 (in346_24 c32_0 c32_1 c32_2 c32_3 c32_4 c32_5 c32_6 c32_7 c32_8) ?_
    refine ev_i2l (pc := 347) d_La_law_347 ?_
    refine ev_bipush (pc := 348) 32 d_La_law_348 (by decide) ?_
    refine ev_lshl (pc := 350) d_La_law_350 ?_
    refine ev_aload_n (pc := 351) d_La_law_351 rfl ?_
    refine ev_iload_n (pc := 352) d_La_law_352 rfl ?_
    refine ev_iconst (pc := 353) 2 d_La_law_353 (by decide) ?_
    refine ev_iadd (pc := 354) d_La_law_354 ?_
    refine ev_sld (pc := 355) d_La_law_355 (in355_25 c32_0 c32_1 c32_2 c32_3 c32_4 c32_5 c32_6 c32_7 c32_8) ?_
    refine ev_i2l (pc := 356) d_La_law_356 ?_
    refine ev_ldc2 (pc := 357) (v := 4294967295) d_La_law_357 wd_1202 ?_
    refine ev_land (pc := 360) d_La_law_360 ?_
    refine ev_lor (pc := 361) d_La_law_361 ?_
    exact ev_invokevirtual (pc := 362) (As := [.long ((((X.2.2.2.2.2 (i3 + 1).toNatClampNeg).toInt64) <<< ((32 : Int32).toInt64 &&& 63)) ||| (((X.2.2.2.2.2 (i3 + 2).toNatClampNeg).toInt64) &&& 4294967295))]) (st := []) (Q2 := Q362) M_P_term rC0 d_La_law_362 lc_La_53 wd_691 wd_692 rfl h_r1 rfl rfl (Nat.le_of_ble_eq_true rfl) (Nat.le_of_ble_eq_true rfl) (Nat.le_of_ble_eq_true rfl) hb_rc362 hs_rs362 (c362_26 c32_0 c32_1 c32_2 c32_3 c32_4 c32_5 c32_6 c32_7 c32_8) (k365_27 c32_0 c32_1 c32_2 c32_3 c32_4 c32_5 c32_6 c32_7 c32_8)
  refine ev_swk (pc := 32) 9 9 394 d_La_law_32 (by decide) (by decide) rfl (by decide) (fun c32_9 => ?_) (fun c32_9 => ?_)
  · refine ev_aload_n (pc := 394) d_La_law_394 rfl ?_
    refine ev_aload_n (pc := 395) d_La_law_395 rfl ?_
    refine ev_iload_n (pc := 396) d_La_law_396 rfl ?_
    refine ev_iconst (pc := 397) 1 d_La_law_397 (by decide) ?_
    refine ev_iadd (pc := 398) d_La_law_398 ?_
    refine ev_sld (pc := 399) d_La_law_399 (in399_28 c32_0 c32_1 c32_2 c32_3 c32_4 c32_5 c32_6 c32_7 c32_8 c32_9) ?_
    exact ev_invokevirtual (pc := 400) (As := [.int (X.2.2.2.2.2 (i3 + 1).toNatClampNeg)]) (st := []) (Q2 := Q400) M_P_phrase rC0 d_La_law_400 lc_La_57 wd_719 wd_720 rfl h_r1 rfl rfl (Nat.le_of_ble_eq_true rfl) (Nat.le_of_ble_eq_true rfl) (Nat.le_of_ble_eq_true rfl) hb_rc400 hs_rs400 (c400_29 c32_0 c32_1 c32_2 c32_3 c32_4 c32_5 c32_6 c32_7 c32_8 c32_9) (k403_30 c32_0 c32_1 c32_2 c32_3 c32_4 c32_5 c32_6 c32_7 c32_8 c32_9)
  refine ev_swk (pc := 32) 10 10 417 d_La_law_32 (by decide) (by decide) rfl (by decide) (fun c32_10 => ?_) (fun c32_10 => ?_)
  · refine ev_aload_n (pc := 417) d_La_law_417 rfl ?_
    refine ev_aload_n (pc := 418) d_La_law_418 rfl ?_
    refine ev_iload_n (pc := 419) d_La_law_419 rfl ?_
    refine ev_iconst (pc := 420) 1 d_La_law_420 (by decide) ?_
    refine ev_iadd (pc := 421) d_La_law_421 ?_
    refine ev_sld (pc := 422) d_La_law_422 (in422_31 c32_0 c32_1 c32_2 c32_3 c32_4 c32_5 c32_6 c32_7 c32_8 c32_9 c32_10) ?_
    exact ev_invokevirtual (pc := 423) (As := [.int (X.2.2.2.2.2 (i3 + 1).toNatClampNeg)]) (st := []) (Q2 := Q423) M_P_join rC0 d_La_law_423 lc_La_61 wd_743 wd_744 rfl h_r1 rfl rfl (Nat.le_of_ble_eq_true rfl) (Nat.le_of_ble_eq_true rfl) (Nat.le_of_ble_eq_true rfl) hb_rc423 hs_rs423 (c423_32 c32_0 c32_1 c32_2 c32_3 c32_4 c32_5 c32_6 c32_7 c32_8 c32_9 c32_10) (k426_33 c32_0 c32_1 c32_2 c32_3 c32_4 c32_5 c32_6 c32_7 c32_8 c32_9 c32_10)
  refine ev_swk (pc := 32) 11 11 440 d_La_law_32 (by decide) (by decide) rfl (by decide) (fun c32_11 => ?_) (fun c32_11 => ?_)
  · refine ev_aload_n (pc := 440) d_La_law_440 rfl ?_
    exact ev_invokevirtual (pc := 441) (As := []) (st := []) (Q2 := Q441) M_P_find rC0 d_La_law_441 lc_La_65 wd_752 wd_753 rfl h_r1 rfl rfl (Nat.le_of_ble_eq_true rfl) (Nat.le_of_ble_eq_true rfl) (Nat.le_of_ble_eq_true rfl) hb_rc441 hs_rs441 (c441_34 c32_0 c32_1 c32_2 c32_3 c32_4 c32_5 c32_6 c32_7 c32_8 c32_9 c32_10 c32_11) (k444_35 c32_0 c32_1 c32_2 c32_3 c32_4 c32_5 c32_6 c32_7 c32_8 c32_9 c32_10 c32_11)
  refine ev_swk (pc := 32) 12 12 453 d_La_law_32 (by decide) (by decide) rfl (by decide) (fun c32_12 => ?_) (fun c32_12 => ?_)
  · refine ev_aload_n (pc := 453) d_La_law_453 rfl ?_
    refine ev_aload_n (pc := 454) d_La_law_454 rfl ?_
    refine ev_iload_n (pc := 455) d_La_law_455 rfl ?_
    refine ev_iconst (pc := 456) 1 d_La_law_456 (by decide) ?_
    refine ev_iadd (pc := 457) d_La_law_457 ?_
    refine ev_sld (pc := 458) d_La_law_458 (in458_36 c32_0 c32_1 c32_2 c32_3 c32_4 c32_5 c32_6 c32_7 c32_8 c32_9 c32_10 c32_11 c32_12) ?_
    exact ev_invokevirtual (pc := 459) (As := [.int (X.2.2.2.2.2 (i3 + 1).toNatClampNeg)]) (st := []) (Q2 := Q459) M_P_rank rC0 d_La_law_459 lc_La_69 wd_786 wd_787 rfl h_r1 rfl rfl (Nat.le_of_ble_eq_true rfl) (Nat.le_of_ble_eq_true rfl) (Nat.le_of_ble_eq_true rfl) hb_rc459 hs_rs459 (c459_37 c32_0 c32_1 c32_2 c32_3 c32_4 c32_5 c32_6 c32_7 c32_8 c32_9 c32_10 c32_11 c32_12) (k462_38 c32_0 c32_1 c32_2 c32_3 c32_4 c32_5 c32_6 c32_7 c32_8 c32_9 c32_10 c32_11 c32_12)
  refine ev_swk (pc := 32) 13 13 476 d_La_law_32 (by decide) (by decide) rfl (by decide) (fun c32_13 => ?_) (fun c32_13 => ?_)
  · refine ev_aload_n (pc := 476) d_La_law_476 rfl ?_
    refine ev_aload_n (pc := 477) d_La_law_477 rfl ?_
    refine ev_iload_n (pc := 478) d_La_law_478 rfl ?_
    refine ev_iconst (pc := 479) 1 d_La_law_479 (by decide) ?_
    refine ev_iadd (pc := 480) d_La_law_480 ?_
    refine ev_sld (pc := 481) d_La_law_481 (in481_39 c32_0 c32_1 c32_2 c32_3 c32_4 c32_5 c32_6 c32_7 c32_8 c32_9 c32_10 c32_11 c32_12 c32_13) ?_
    exact ev_invokevirtual (pc := 482) (As := [.int (X.2.2.2.2.2 (i3 + 1).toNatClampNeg)]) (st := []) (Q2 := Q482) M_P_result rC0 d_La_law_482 lc_La_73 wd_850 wd_851 rfl h_r1 rfl rfl (Nat.le_of_ble_eq_true rfl) (Nat.le_of_ble_eq_true rfl) (Nat.le_of_ble_eq_true rfl) hb_rc482 hs_rs482 (c482_40 c32_0 c32_1 c32_2 c32_3 c32_4 c32_5 c32_6 c32_7 c32_8 c32_9 c32_10 c32_11 c32_12 c32_13) (k485_41 c32_0 c32_1 c32_2 c32_3 c32_4 c32_5 c32_6 c32_7 c32_8 c32_9 c32_10 c32_11 c32_12 c32_13)
  refine ev_swk (pc := 32) 14 14 499 d_La_law_32 (by decide) (by decide) rfl (by decide) (fun c32_14 => ?_) (fun c32_14 => ?_)
  · refine ev_aload_n (pc := 499) d_La_law_499 rfl ?_
    refine ev_aload_n (pc := 500) d_La_law_500 rfl ?_
    refine ev_iload_n (pc := 501) d_La_law_501 rfl ?_
    refine ev_iconst (pc := 502) 1 d_La_law_502 (by decide) ?_
    refine ev_iadd (pc := 503) d_La_law_503 ?_
    refine ev_sld (pc := 504) d_La_law_504 (in504_42 c32_0 c32_1 c32_2 c32_3 c32_4 c32_5 c32_6 c32_7 c32_8 c32_9 c32_10 c32_11 c32_12 c32_13 c32_14) ?_
    exact ev_invokevirtual (pc := 505) (As := [.int (X.2.2.2.2.2 (i3 + 1).toNatClampNeg)]) (st := []) (Q2 := Q505) M_P_weight rC0 d_La_law_505 lc_La_77 wd_858 wd_859 rfl h_r1 rfl rfl (Nat.le_of_ble_eq_true rfl) (Nat.le_of_ble_eq_true rfl) (Nat.le_of_ble_eq_true rfl) hb_rc505 hs_rs505 (c505_43 c32_0 c32_1 c32_2 c32_3 c32_4 c32_5 c32_6 c32_7 c32_8 c32_9 c32_10 c32_11 c32_12 c32_13 c32_14) (k508_44 c32_0 c32_1 c32_2 c32_3 c32_4 c32_5 c32_6 c32_7 c32_8 c32_9 c32_10 c32_11 c32_12 c32_13 c32_14)
  refine ev_swk (pc := 32) 15 15 522 d_La_law_32 (by decide) (by decide) rfl (by decide) (fun c32_15 => ?_) (fun c32_15 => ?_)
  · refine ev_aload_n (pc := 522) d_La_law_522 rfl ?_
    exact ev_invokevirtual (pc := 523) (As := []) (st := []) (Q2 := Q523) M_P_weighed rC0 d_La_law_523 lc_La_81 wd_862 wd_863 rfl h_r1 rfl rfl (Nat.le_of_ble_eq_true rfl) (Nat.le_of_ble_eq_true rfl) (Nat.le_of_ble_eq_true rfl) hb_rc523 hs_rs523 (c523_45 c32_0 c32_1 c32_2 c32_3 c32_4 c32_5 c32_6 c32_7 c32_8 c32_9 c32_10 c32_11 c32_12 c32_13 c32_14 c32_15) (k526_46 c32_0 c32_1 c32_2 c32_3 c32_4 c32_5 c32_6 c32_7 c32_8 c32_9 c32_10 c32_11 c32_12 c32_13 c32_14 c32_15)
  refine ev_swk (pc := 32) 16 16 535 d_La_law_32 (by decide) (by decide) rfl (by decide) (fun c32_16 => ?_) (fun c32_16 => ?_)
  · refine ev_aload_n (pc := 535) d_La_law_535 rfl ?_
    refine ev_aload_n (pc := 536) d_La_law_536 rfl ?_
    refine ev_iload_n (pc := 537) d_La_law_537 rfl ?_
    refine ev_iconst (pc := 538) 1 d_La_law_538 (by decide) ?_
    refine ev_iadd (pc := 539) d_La_law_539 ?_
    refine ev_sld (pc := 540) d_La_law_540 (in540_47 c32_0 c32_1 c32_2 c32_3 c32_4 c32_5 c32_6 c32_7 c32_8 c32_9 c32_10 c32_11 c32_12 c32_13 c32_14 c32_15 c32_16) ?_
    exact ev_invokevirtual (pc := 541) (As := [.int (X.2.2.2.2.2 (i3 + 1).toNatClampNeg)]) (st := []) (Q2 := Q541) M_P_size rC0 d_La_law_541 lc_La_85 wd_866 wd_867 rfl h_r1 rfl rfl (Nat.le_of_ble_eq_true rfl) (Nat.le_of_ble_eq_true rfl) (Nat.le_of_ble_eq_true rfl) hb_rc541 hs_rs541 (c541_48 c32_0 c32_1 c32_2 c32_3 c32_4 c32_5 c32_6 c32_7 c32_8 c32_9 c32_10 c32_11 c32_12 c32_13 c32_14 c32_15 c32_16) (k544_49 c32_0 c32_1 c32_2 c32_3 c32_4 c32_5 c32_6 c32_7 c32_8 c32_9 c32_10 c32_11 c32_12 c32_13 c32_14 c32_15 c32_16)
  refine ev_tableOut (pc := 32) 558 d_La_law_32 (sw32_50 c32_0 c32_1 c32_2 c32_3 c32_4 c32_5 c32_6 c32_7 c32_8 c32_9 c32_10 c32_11 c32_12 c32_13 c32_14 c32_15 c32_16) (by decide) ?_
  exact (k558_51 c32_0 c32_1 c32_2 c32_3 c32_4 c32_5 c32_6 c32_7 c32_8 c32_9 c32_10 c32_11 c32_12 c32_13 c32_14 c32_15 c32_16)

set_option maxRecDepth 100000 in
set_option maxHeartbeats 4000000 in
theorem s_La_law_558 {l : Launch} {X : ev_X} {bc bs n : Nat} {F : ev_H} {Z : ev_Z} {r1 : Nat} {r2 : Nat} {i3 : Int32} 
    (k18_0 : Ev l X M_Lw bc bs 18 [(0, .ref (X.2.2.2.1 0)), (1, .ref r1), (2, .ref r2), (3, .int (i3 + 3))] [] n F Z) :
    Ev l X M_Lw bc bs 558 [(0, .ref (X.2.2.2.1 0)), (1, .ref r1), (2, .ref r2), (3, .int i3)] [] n F Z := by
  refine ev_iinc (pc := 558) 3 3 d_La_law_558 rfl (by decide) (Nat.le_of_ble_eq_true rfl) [1, 2, 3, 0] rfl ?_
  refine ev_goto (pc := 561) 18 d_La_law_561 (by decide) ?_
  exact k18_0

set_option maxRecDepth 100000 in
set_option maxHeartbeats 4000000 in
theorem s_La_law_7 {l : Launch} {X : ev_X} {bc bs n : Nat} {F : ev_H} {Z : ev_Z} {rs0 : Nat} {rc8 : Nat} {rs8 : Nat} {Q12 : Option Value → Nat → ev_H → Prop} {bc12 : Nat} {bs12 : Nat} {rc12 : Nat} {rs12 : Nat} (hb_rc8 : rc8 + 1 ≤ bc) (hs_rs8 : rs8 + 29 ≤ bs) (hb_rc12 : rc12 + bc12 ≤ rc8) (hs_rs12 : rs12 + bs12 ≤ rs8)
    (c12_0 : Cal l X M_Mo_init bc12 bs12 [.ref n] (n + 1) (ev_up F n (.inr (11, [.null, .int 0, .null, .null, .null, .int 0, .null, .null, .null, .null, .null, .int 0, .int 0, .int 0, .int 0, .int 0, .null, .null, .int 0, .null, .null, .null, .int 0, .null, .null, .int 0, .null, .null, .null]))) Q12)
    (k15_1 : ∀ v2 n2 F2, Q12 v2 n2 F2 → Ev l X M_Lw rc12 rs12 15 [(0, .ref (X.2.2.2.1 0)), (1, .ref rs0)] (v2.toList ++ [.ref n]) n2 F2 Z) :
    Ev l X M_Lw bc bs 7 [(0, .ref (X.2.2.2.1 0))] [.ref rs0] n F Z := by
  refine ev_astore_n (pc := 7) d_La_law_7 (Nat.le_of_ble_eq_true rfl) [1, 0] rfl ?_
  refine ev_fresh fun fr8 => ?_
  refine ev_new (pc := 8) 11 [.null, .int 0, .null, .null, .null, .int 0, .null, .null, .null, .null, .null, .int 0, .int 0, .int 0, .int 0, .int 0, .null, .null, .int 0, .null, .null, .null, .int 0, .null, .null, .int 0, .null, .null, .null] d_La_law_8 ck_11 wd_890 wd_891 wd_12 (by decide +kernel) (bc2 := rc8) (bs2 := rs8) hb_rc8 hs_rs8 (fun F1_ hF1_ => ?_)
  have g2_ : F1_ n = some (.inr (11, [.null, .int 0, .null, .null, .null, .int 0, .null, .null, .null, .null, .null, .int 0, .int 0, .int 0, .int 0, .int 0, .null, .null, .int 0, .null, .null, .null, .int 0, .null, .null, .int 0, .null, .null, .null])) := by rw [← hF1_]; exact ev_up_s
  refine ev_dup (pc := 11) d_La_law_11 rfl ?_
  exact ev_init (pc := 12) (As := []) (st := [.ref n]) (Q2 := Q12) M_Mo_init d_La_law_12 lc_La_12 rfl rfl wd_893 rfl rfl (Nat.le_of_ble_eq_true rfl) (Nat.le_of_ble_eq_true rfl) (Nat.le_of_ble_eq_true rfl) hb_rc12 hs_rs12 (by subst hF1_; exact c12_0) k15_1

set_option maxRecDepth 100000 in
set_option maxHeartbeats 4000000 in
theorem s_La_law_140 {l : Launch} {X : ev_X} {bc bs n : Nat} {F : ev_H} {Z : ev_Z} {r1 : Nat} {r2 : Nat} {i3 : Int32} {js0 : Int64} {ir2_drafted : Int32} {ir2_rows : Int32} {ir2_segments : Int32} {ir2_stopped : Int32} {ir2_fuse : Int32} {ir2_written : Int32} {ir2_tokens : Int32} {ir2_height : Int32} {ir2_results : Int32} {ir2_weighed : Int32} {Q161 : Option Value → Nat → ev_H → Prop} {bc161 : Nat} {bs161 : Nat} {rc161 : Nat} {rs161 : Nat} (h_r2 : F r2 = some (moO r2 ir2_drafted ir2_rows ir2_segments ir2_stopped ir2_fuse ir2_written ir2_tokens ir2_height ir2_results ir2_weighed)) (hb_rc161 : rc161 + bc161 ≤ bc) (hs_rs161 : rs161 + bs161 ≤ bs)
    (in145_0 : vp_in (i3 + 1) X.2.2.2.2.1)
    (in154_1 : vp_in (i3 + 2) X.2.2.2.2.1)
    (c161_2 : Cal l X M_Mo_stem bc161 bs161 [.ref r2, .long ((((X.2.2.2.2.2 (i3 + 1).toNatClampNeg).toInt64) <<< ((32 : Int32).toInt64 &&& 63)) ||| (((X.2.2.2.2.2 (i3 + 2).toNatClampNeg).toInt64) &&& 4294967295))] n F Q161)
    (k164_3 : ∀ v2 n2 F2, Q161 v2 n2 F2 → Ev l X M_Lw rc161 rs161 164 [(0, .ref (X.2.2.2.1 0)), (1, .ref r1), (2, .ref r2), (3, .int i3)] (v2.toList ++ [.long js0]) n2 F2 Z) :
    Ev l X M_Lw bc bs 140 [(0, .ref (X.2.2.2.1 0)), (1, .ref r1), (2, .ref r2), (3, .int i3)] [.long js0] n F Z := by
  refine ev_aload_n (pc := 140) d_La_law_140 rfl ?_
  refine ev_aload_n (pc := 141) d_La_law_141 rfl ?_
  refine ev_iload_n (pc := 142) d_La_law_142 rfl ?_
  refine ev_iconst (pc := 143) 1 d_La_law_143 (by decide) ?_
  refine ev_iadd (pc := 144) d_La_law_144 ?_
  refine ev_sld (pc := 145) d_La_law_145 in145_0 ?_
  refine ev_i2l (pc := 146) d_La_law_146 ?_
  refine ev_bipush (pc := 147) 32 d_La_law_147 (by decide) ?_
  refine ev_lshl (pc := 149) d_La_law_149 ?_
  refine ev_aload_n (pc := 150) d_La_law_150 rfl ?_
  refine ev_iload_n (pc := 151) d_La_law_151 rfl ?_
  refine ev_iconst (pc := 152) 2 d_La_law_152 (by decide) ?_
  refine ev_iadd (pc := 153) d_La_law_153 ?_
  refine ev_sld (pc := 154) d_La_law_154 in154_1 ?_
  refine ev_i2l (pc := 155) d_La_law_155 ?_
  refine ev_ldc2 (pc := 156) (v := 4294967295) d_La_law_156 wd_1202 ?_
  refine ev_land (pc := 159) d_La_law_159 ?_
  refine ev_lor (pc := 160) d_La_law_160 ?_
  exact ev_invokevirtual (pc := 161) (As := [.long ((((X.2.2.2.2.2 (i3 + 1).toNatClampNeg).toInt64) <<< ((32 : Int32).toInt64 &&& 63)) ||| (((X.2.2.2.2.2 (i3 + 2).toNatClampNeg).toInt64) &&& 4294967295))]) (st := [.long js0]) (Q2 := Q161) M_Mo_stem rC11 d_La_law_161 lc_La_19 wd_985 wd_986 rfl h_r2 rfl rfl (Nat.le_of_ble_eq_true rfl) (Nat.le_of_ble_eq_true rfl) (Nat.le_of_ble_eq_true rfl) hb_rc161 hs_rs161 c161_2 k164_3

set_option maxRecDepth 100000 in
set_option maxHeartbeats 4000000 in
theorem s_La_law_194 {l : Launch} {X : ev_X} {bc bs n : Nat} {F : ev_H} {Z : ev_Z} {r1 : Nat} {r2 : Nat} {i3 : Int32} {is0 : Int32} {ir2_drafted : Int32} {ir2_rows : Int32} {ir2_segments : Int32} {ir2_stopped : Int32} {ir2_fuse : Int32} {ir2_written : Int32} {ir2_tokens : Int32} {ir2_height : Int32} {ir2_results : Int32} {ir2_weighed : Int32} {Q215 : Option Value → Nat → ev_H → Prop} {bc215 : Nat} {bs215 : Nat} {rc215 : Nat} {rs215 : Nat} (h_r2 : F r2 = some (moO r2 ir2_drafted ir2_rows ir2_segments ir2_stopped ir2_fuse ir2_written ir2_tokens ir2_height ir2_results ir2_weighed)) (hb_rc215 : rc215 + bc215 ≤ bc) (hs_rs215 : rs215 + bs215 ≤ bs)
    (in199_0 : vp_in (i3 + 1) X.2.2.2.2.1)
    (in208_1 : vp_in (i3 + 2) X.2.2.2.2.1)
    (c215_2 : Cal l X M_Mo_feed bc215 bs215 [.ref r2, .long ((((X.2.2.2.2.2 (i3 + 1).toNatClampNeg).toInt64) <<< ((32 : Int32).toInt64 &&& 63)) ||| (((X.2.2.2.2.2 (i3 + 2).toNatClampNeg).toInt64) &&& 4294967295))] n F Q215)
    (k218_3 : ∀ v2 n2 F2, Q215 v2 n2 F2 → Ev l X M_Lw rc215 rs215 218 [(0, .ref (X.2.2.2.1 0)), (1, .ref r1), (2, .ref r2), (3, .int i3)] (v2.toList ++ [.int is0]) n2 F2 Z) :
    Ev l X M_Lw bc bs 194 [(0, .ref (X.2.2.2.1 0)), (1, .ref r1), (2, .ref r2), (3, .int i3)] [.int is0] n F Z := by
  refine ev_aload_n (pc := 194) d_La_law_194 rfl ?_
  refine ev_aload_n (pc := 195) d_La_law_195 rfl ?_
  refine ev_iload_n (pc := 196) d_La_law_196 rfl ?_
  refine ev_iconst (pc := 197) 1 d_La_law_197 (by decide) ?_
  refine ev_iadd (pc := 198) d_La_law_198 ?_
  refine ev_sld (pc := 199) d_La_law_199 in199_0 ?_
  refine ev_i2l (pc := 200) d_La_law_200 ?_
  refine ev_bipush (pc := 201) 32 d_La_law_201 (by decide) ?_
  refine ev_lshl (pc := 203) d_La_law_203 ?_
  refine ev_aload_n (pc := 204) d_La_law_204 rfl ?_
  refine ev_iload_n (pc := 205) d_La_law_205 rfl ?_
  refine ev_iconst (pc := 206) 2 d_La_law_206 (by decide) ?_
  refine ev_iadd (pc := 207) d_La_law_207 ?_
  refine ev_sld (pc := 208) d_La_law_208 in208_1 ?_
  refine ev_i2l (pc := 209) d_La_law_209 ?_
  refine ev_ldc2 (pc := 210) (v := 4294967295) d_La_law_210 wd_1202 ?_
  refine ev_land (pc := 213) d_La_law_213 ?_
  refine ev_lor (pc := 214) d_La_law_214 ?_
  exact ev_invokevirtual (pc := 215) (As := [.long ((((X.2.2.2.2.2 (i3 + 1).toNatClampNeg).toInt64) <<< ((32 : Int32).toInt64 &&& 63)) ||| (((X.2.2.2.2.2 (i3 + 2).toNatClampNeg).toInt64) &&& 4294967295))]) (st := [.int is0]) (Q2 := Q215) M_Mo_feed rC11 d_La_law_215 lc_La_24 wd_1037 wd_1038 rfl h_r2 rfl rfl (Nat.le_of_ble_eq_true rfl) (Nat.le_of_ble_eq_true rfl) (Nat.le_of_ble_eq_true rfl) hb_rc215 hs_rs215 c215_2 k218_3

set_option maxRecDepth 100000 in
set_option maxHeartbeats 4000000 in
theorem s_La_law_232 {l : Launch} {X : ev_X} {bc bs n : Nat} {F : ev_H} {Z : ev_Z} {r1 : Nat} {r2 : Nat} {i3 : Int32} {is0 : Int32} {ir2_drafted : Int32} {ir2_rows : Int32} {ir2_segments : Int32} {ir2_stopped : Int32} {ir2_fuse : Int32} {ir2_written : Int32} {ir2_tokens : Int32} {ir2_height : Int32} {ir2_results : Int32} {ir2_weighed : Int32} {Q238 : Option Value → Nat → ev_H → Prop} {bc238 : Nat} {bs238 : Nat} {rc238 : Nat} {rs238 : Nat} (h_r2 : F r2 = some (moO r2 ir2_drafted ir2_rows ir2_segments ir2_stopped ir2_fuse ir2_written ir2_tokens ir2_height ir2_results ir2_weighed)) (hb_rc238 : rc238 + bc238 ≤ bc) (hs_rs238 : rs238 + bs238 ≤ bs)
    (in237_0 : vp_in (i3 + 1) X.2.2.2.2.1)
    (c238_1 : Cal l X M_Mo_add bc238 bs238 [.ref r2, .int (X.2.2.2.2.2 (i3 + 1).toNatClampNeg)] n F Q238)
    (k241_2 : ∀ v2 n2 F2, Q238 v2 n2 F2 → Ev l X M_Lw rc238 rs238 241 [(0, .ref (X.2.2.2.1 0)), (1, .ref r1), (2, .ref r2), (3, .int i3)] (v2.toList ++ [.int is0]) n2 F2 Z) :
    Ev l X M_Lw bc bs 232 [(0, .ref (X.2.2.2.1 0)), (1, .ref r1), (2, .ref r2), (3, .int i3)] [.int is0] n F Z := by
  refine ev_aload_n (pc := 232) d_La_law_232 rfl ?_
  refine ev_aload_n (pc := 233) d_La_law_233 rfl ?_
  refine ev_iload_n (pc := 234) d_La_law_234 rfl ?_
  refine ev_iconst (pc := 235) 1 d_La_law_235 (by decide) ?_
  refine ev_iadd (pc := 236) d_La_law_236 ?_
  refine ev_sld (pc := 237) d_La_law_237 in237_0 ?_
  exact ev_invokevirtual (pc := 238) (As := [.int (X.2.2.2.2.2 (i3 + 1).toNatClampNeg)]) (st := [.int is0]) (Q2 := Q238) M_Mo_add rC11 d_La_law_238 lc_La_29 wd_1047 wd_1048 rfl h_r2 rfl rfl (Nat.le_of_ble_eq_true rfl) (Nat.le_of_ble_eq_true rfl) (Nat.le_of_ble_eq_true rfl) hb_rc238 hs_rs238 c238_1 k241_2

set_option maxRecDepth 100000 in
set_option maxHeartbeats 4000000 in
theorem s_La_law_255 {l : Launch} {X : ev_X} {bc bs n : Nat} {F : ev_H} {Z : ev_Z} {r1 : Nat} {r2 : Nat} {i3 : Int32} {is0 : Int32} {ir2_drafted : Int32} {ir2_rows : Int32} {ir2_segments : Int32} {ir2_stopped : Int32} {ir2_fuse : Int32} {ir2_written : Int32} {ir2_tokens : Int32} {ir2_height : Int32} {ir2_results : Int32} {ir2_weighed : Int32} {Q261 : Option Value → Nat → ev_H → Prop} {bc261 : Nat} {bs261 : Nat} {rc261 : Nat} {rs261 : Nat} (h_r2 : F r2 = some (moO r2 ir2_drafted ir2_rows ir2_segments ir2_stopped ir2_fuse ir2_written ir2_tokens ir2_height ir2_results ir2_weighed)) (hb_rc261 : rc261 + bc261 ≤ bc) (hs_rs261 : rs261 + bs261 ≤ bs)
    (in260_0 : vp_in (i3 + 1) X.2.2.2.2.1)
    (c261_1 : Cal l X M_Mo_delete bc261 bs261 [.ref r2, .int (X.2.2.2.2.2 (i3 + 1).toNatClampNeg)] n F Q261)
    (k264_2 : ∀ v2 n2 F2, Q261 v2 n2 F2 → Ev l X M_Lw rc261 rs261 264 [(0, .ref (X.2.2.2.1 0)), (1, .ref r1), (2, .ref r2), (3, .int i3)] (v2.toList ++ [.int is0]) n2 F2 Z) :
    Ev l X M_Lw bc bs 255 [(0, .ref (X.2.2.2.1 0)), (1, .ref r1), (2, .ref r2), (3, .int i3)] [.int is0] n F Z := by
  refine ev_aload_n (pc := 255) d_La_law_255 rfl ?_
  refine ev_aload_n (pc := 256) d_La_law_256 rfl ?_
  refine ev_iload_n (pc := 257) d_La_law_257 rfl ?_
  refine ev_iconst (pc := 258) 1 d_La_law_258 (by decide) ?_
  refine ev_iadd (pc := 259) d_La_law_259 ?_
  refine ev_sld (pc := 260) d_La_law_260 in260_0 ?_
  exact ev_invokevirtual (pc := 261) (As := [.int (X.2.2.2.2.2 (i3 + 1).toNatClampNeg)]) (st := [.int is0]) (Q2 := Q261) M_Mo_delete rC11 d_La_law_261 lc_La_33 wd_1055 wd_1056 rfl h_r2 rfl rfl (Nat.le_of_ble_eq_true rfl) (Nat.le_of_ble_eq_true rfl) (Nat.le_of_ble_eq_true rfl) hb_rc261 hs_rs261 c261_1 k264_2

set_option maxRecDepth 100000 in
set_option maxHeartbeats 4000000 in
theorem s_La_law_273 {l : Launch} {X : ev_X} {bc bs n : Nat} {F : ev_H} {Z : ev_Z} {r1 : Nat} {r2 : Nat} {i3 : Int32} {is0 : Int32} {ir2_drafted : Int32} {ir2_rows : Int32} {ir2_segments : Int32} {ir2_stopped : Int32} {ir2_fuse : Int32} {ir2_written : Int32} {ir2_tokens : Int32} {ir2_height : Int32} {ir2_results : Int32} {ir2_weighed : Int32} {Q274 : Option Value → Nat → ev_H → Prop} {bc274 : Nat} {bs274 : Nat} {rc274 : Nat} {rs274 : Nat} (h_r2 : F r2 = some (moO r2 ir2_drafted ir2_rows ir2_segments ir2_stopped ir2_fuse ir2_written ir2_tokens ir2_height ir2_results ir2_weighed)) (hb_rc274 : rc274 + bc274 ≤ bc) (hs_rs274 : rs274 + bs274 ≤ bs)
    (c274_0 : Cal l X M_Mo_commit bc274 bs274 [.ref r2] n F Q274)
    (k277_1 : ∀ v2 n2 F2, Q274 v2 n2 F2 → Ev l X M_Lw rc274 rs274 277 [(0, .ref (X.2.2.2.1 0)), (1, .ref r1), (2, .ref r2), (3, .int i3)] (v2.toList ++ [.int is0]) n2 F2 Z) :
    Ev l X M_Lw bc bs 273 [(0, .ref (X.2.2.2.1 0)), (1, .ref r1), (2, .ref r2), (3, .int i3)] [.int is0] n F Z := by
  refine ev_aload_n (pc := 273) d_La_law_273 rfl ?_
  exact ev_invokevirtual (pc := 274) (As := []) (st := [.int is0]) (Q2 := Q274) M_Mo_commit rC11 d_La_law_274 lc_La_38 wd_1059 wd_1060 rfl h_r2 rfl rfl (Nat.le_of_ble_eq_true rfl) (Nat.le_of_ble_eq_true rfl) (Nat.le_of_ble_eq_true rfl) hb_rc274 hs_rs274 c274_0 k277_1

set_option maxRecDepth 100000 in
set_option maxHeartbeats 4000000 in
theorem s_La_law_291 {l : Launch} {X : ev_X} {bc bs n : Nat} {F : ev_H} {Z : ev_Z} {r1 : Nat} {r2 : Nat} {i3 : Int32} {is0 : Int32} {ir2_drafted : Int32} {ir2_rows : Int32} {ir2_segments : Int32} {ir2_stopped : Int32} {ir2_fuse : Int32} {ir2_written : Int32} {ir2_tokens : Int32} {ir2_height : Int32} {ir2_results : Int32} {ir2_weighed : Int32} {Q297 : Option Value → Nat → ev_H → Prop} {bc297 : Nat} {bs297 : Nat} {rc297 : Nat} {rs297 : Nat} (h_r2 : F r2 = some (moO r2 ir2_drafted ir2_rows ir2_segments ir2_stopped ir2_fuse ir2_written ir2_tokens ir2_height ir2_results ir2_weighed)) (hb_rc297 : rc297 + bc297 ≤ bc) (hs_rs297 : rs297 + bs297 ≤ bs)
    (in296_0 : vp_in (i3 + 1) X.2.2.2.2.1)
    (c297_1 : Cal l X M_Mo_merge bc297 bs297 [.ref r2, .int (X.2.2.2.2.2 (i3 + 1).toNatClampNeg)] n F Q297)
    (k300_2 : ∀ v2 n2 F2, Q297 v2 n2 F2 → Ev l X M_Lw rc297 rs297 300 [(0, .ref (X.2.2.2.1 0)), (1, .ref r1), (2, .ref r2), (3, .int i3)] (v2.toList ++ [.int is0]) n2 F2 Z) :
    Ev l X M_Lw bc bs 291 [(0, .ref (X.2.2.2.1 0)), (1, .ref r1), (2, .ref r2), (3, .int i3)] [.int is0] n F Z := by
  refine ev_aload_n (pc := 291) d_La_law_291 rfl ?_
  refine ev_aload_n (pc := 292) d_La_law_292 rfl ?_
  refine ev_iload_n (pc := 293) d_La_law_293 rfl ?_
  refine ev_iconst (pc := 294) 1 d_La_law_294 (by decide) ?_
  refine ev_iadd (pc := 295) d_La_law_295 ?_
  refine ev_sld (pc := 296) d_La_law_296 in296_0 ?_
  exact ev_invokevirtual (pc := 297) (As := [.int (X.2.2.2.2.2 (i3 + 1).toNatClampNeg)]) (st := [.int is0]) (Q2 := Q297) M_Mo_merge rC11 d_La_law_297 lc_La_42 wd_1083 wd_1084 rfl h_r2 rfl rfl (Nat.le_of_ble_eq_true rfl) (Nat.le_of_ble_eq_true rfl) (Nat.le_of_ble_eq_true rfl) hb_rc297 hs_rs297 c297_1 k300_2

set_option maxRecDepth 100000 in
set_option maxHeartbeats 4000000 in
theorem s_La_law_314 {l : Launch} {X : ev_X} {bc bs n : Nat} {F : ev_H} {Z : ev_Z} {r1 : Nat} {r2 : Nat} {i3 : Int32} {is0 : Int32} {ir2_drafted : Int32} {ir2_rows : Int32} {ir2_segments : Int32} {ir2_stopped : Int32} {ir2_fuse : Int32} {ir2_written : Int32} {ir2_tokens : Int32} {ir2_height : Int32} {ir2_results : Int32} {ir2_weighed : Int32} {Q320 : Option Value → Nat → ev_H → Prop} {bc320 : Nat} {bs320 : Nat} {rc320 : Nat} {rs320 : Nat} (h_r2 : F r2 = some (moO r2 ir2_drafted ir2_rows ir2_segments ir2_stopped ir2_fuse ir2_written ir2_tokens ir2_height ir2_results ir2_weighed)) (hb_rc320 : rc320 + bc320 ≤ bc) (hs_rs320 : rs320 + bs320 ≤ bs)
    (in319_0 : vp_in (i3 + 1) X.2.2.2.2.1)
    (c320_1 : Cal l X M_Mo_fuse bc320 bs320 [.ref r2, .int (X.2.2.2.2.2 (i3 + 1).toNatClampNeg)] n F Q320)
    (k323_2 : ∀ v2 n2 F2, Q320 v2 n2 F2 → Ev l X M_Lw rc320 rs320 323 [(0, .ref (X.2.2.2.1 0)), (1, .ref r1), (2, .ref r2), (3, .int i3)] (v2.toList ++ [.int is0]) n2 F2 Z) :
    Ev l X M_Lw bc bs 314 [(0, .ref (X.2.2.2.1 0)), (1, .ref r1), (2, .ref r2), (3, .int i3)] [.int is0] n F Z := by
  refine ev_aload_n (pc := 314) d_La_law_314 rfl ?_
  refine ev_aload_n (pc := 315) d_La_law_315 rfl ?_
  refine ev_iload_n (pc := 316) d_La_law_316 rfl ?_
  refine ev_iconst (pc := 317) 1 d_La_law_317 (by decide) ?_
  refine ev_iadd (pc := 318) d_La_law_318 ?_
  refine ev_sld (pc := 319) d_La_law_319 in319_0 ?_
  exact ev_invokevirtual (pc := 320) (As := [.int (X.2.2.2.2.2 (i3 + 1).toNatClampNeg)]) (st := [.int is0]) (Q2 := Q320) M_Mo_fuse rC11 d_La_law_320 lc_La_47 wd_1095 wd_1096 rfl h_r2 rfl rfl (Nat.le_of_ble_eq_true rfl) (Nat.le_of_ble_eq_true rfl) (Nat.le_of_ble_eq_true rfl) hb_rc320 hs_rs320 c320_1 k323_2

set_option maxRecDepth 100000 in
set_option maxHeartbeats 4000000 in
theorem s_La_law_332 {l : Launch} {X : ev_X} {bc bs n : Nat} {F : ev_H} {Z : ev_Z} {r1 : Nat} {r2 : Nat} {i3 : Int32} {is0 : Int32} {ir2_drafted : Int32} {ir2_rows : Int32} {ir2_segments : Int32} {ir2_stopped : Int32} {ir2_fuse : Int32} {ir2_written : Int32} {ir2_tokens : Int32} {ir2_height : Int32} {ir2_results : Int32} {ir2_weighed : Int32} {Q333 : Option Value → Nat → ev_H → Prop} {bc333 : Nat} {bs333 : Nat} {rc333 : Nat} {rs333 : Nat} (h_r2 : F r2 = some (moO r2 ir2_drafted ir2_rows ir2_segments ir2_stopped ir2_fuse ir2_written ir2_tokens ir2_height ir2_results ir2_weighed)) (hb_rc333 : rc333 + bc333 ≤ bc) (hs_rs333 : rs333 + bs333 ≤ bs)
    (c333_0 : Cal l X M_Mo_restart bc333 bs333 [.ref r2] n F Q333)
    (k336_1 : ∀ v2 n2 F2, Q333 v2 n2 F2 → Ev l X M_Lw rc333 rs333 336 [(0, .ref (X.2.2.2.1 0)), (1, .ref r1), (2, .ref r2), (3, .int i3)] (v2.toList ++ [.int is0]) n2 F2 Z) :
    Ev l X M_Lw bc bs 332 [(0, .ref (X.2.2.2.1 0)), (1, .ref r1), (2, .ref r2), (3, .int i3)] [.int is0] n F Z := by
  refine ev_aload_n (pc := 332) d_La_law_332 rfl ?_
  exact ev_invokevirtual (pc := 333) (As := []) (st := [.int is0]) (Q2 := Q333) M_Mo_restart rC11 d_La_law_333 lc_La_52 wd_1099 wd_1100 rfl h_r2 rfl rfl (Nat.le_of_ble_eq_true rfl) (Nat.le_of_ble_eq_true rfl) (Nat.le_of_ble_eq_true rfl) hb_rc333 hs_rs333 c333_0 k336_1

set_option maxRecDepth 100000 in
set_option maxHeartbeats 4000000 in
theorem s_La_law_365 {l : Launch} {X : ev_X} {bc bs n : Nat} {F : ev_H} {Z : ev_Z} {r1 : Nat} {r2 : Nat} {i3 : Int32} {is0 : Int32} {ir2_drafted : Int32} {ir2_rows : Int32} {ir2_segments : Int32} {ir2_stopped : Int32} {ir2_fuse : Int32} {ir2_written : Int32} {ir2_tokens : Int32} {ir2_height : Int32} {ir2_results : Int32} {ir2_weighed : Int32} {Q386 : Option Value → Nat → ev_H → Prop} {bc386 : Nat} {bs386 : Nat} {rc386 : Nat} {rs386 : Nat} (h_r2 : F r2 = some (moO r2 ir2_drafted ir2_rows ir2_segments ir2_stopped ir2_fuse ir2_written ir2_tokens ir2_height ir2_results ir2_weighed)) (hb_rc386 : rc386 + bc386 ≤ bc) (hs_rs386 : rs386 + bs386 ≤ bs)
    (in370_0 : vp_in (i3 + 1) X.2.2.2.2.1)
    (in379_1 : vp_in (i3 + 2) X.2.2.2.2.1)
    (c386_2 : Cal l X M_Mo_term bc386 bs386 [.ref r2, .long ((((X.2.2.2.2.2 (i3 + 1).toNatClampNeg).toInt64) <<< ((32 : Int32).toInt64 &&& 63)) ||| (((X.2.2.2.2.2 (i3 + 2).toNatClampNeg).toInt64) &&& 4294967295))] n F Q386)
    (k389_3 : ∀ v2 n2 F2, Q386 v2 n2 F2 → Ev l X M_Lw rc386 rs386 389 [(0, .ref (X.2.2.2.1 0)), (1, .ref r1), (2, .ref r2), (3, .int i3)] (v2.toList ++ [.int is0]) n2 F2 Z) :
    Ev l X M_Lw bc bs 365 [(0, .ref (X.2.2.2.1 0)), (1, .ref r1), (2, .ref r2), (3, .int i3)] [.int is0] n F Z := by
  refine ev_aload_n (pc := 365) d_La_law_365 rfl ?_
  refine ev_aload_n (pc := 366) d_La_law_366 rfl ?_
  refine ev_iload_n (pc := 367) d_La_law_367 rfl ?_
  refine ev_iconst (pc := 368) 1 d_La_law_368 (by decide) ?_
  refine ev_iadd (pc := 369) d_La_law_369 ?_
  refine ev_sld (pc := 370) d_La_law_370 in370_0 ?_
  refine ev_i2l (pc := 371) d_La_law_371 ?_
  refine ev_bipush (pc := 372) 32 d_La_law_372 (by decide) ?_
  refine ev_lshl (pc := 374) d_La_law_374 ?_
  refine ev_aload_n (pc := 375) d_La_law_375 rfl ?_
  refine ev_iload_n (pc := 376) d_La_law_376 rfl ?_
  refine ev_iconst (pc := 377) 2 d_La_law_377 (by decide) ?_
  refine ev_iadd (pc := 378) d_La_law_378 ?_
  refine ev_sld (pc := 379) d_La_law_379 in379_1 ?_
  refine ev_i2l (pc := 380) d_La_law_380 ?_
  refine ev_ldc2 (pc := 381) (v := 4294967295) d_La_law_381 wd_1202 ?_
  refine ev_land (pc := 384) d_La_law_384 ?_
  refine ev_lor (pc := 385) d_La_law_385 ?_
  exact ev_invokevirtual (pc := 386) (As := [.long ((((X.2.2.2.2.2 (i3 + 1).toNatClampNeg).toInt64) <<< ((32 : Int32).toInt64 &&& 63)) ||| (((X.2.2.2.2.2 (i3 + 2).toNatClampNeg).toInt64) &&& 4294967295))]) (st := [.int is0]) (Q2 := Q386) M_Mo_term rC11 d_La_law_386 lc_La_56 wd_1103 wd_1104 rfl h_r2 rfl rfl (Nat.le_of_ble_eq_true rfl) (Nat.le_of_ble_eq_true rfl) (Nat.le_of_ble_eq_true rfl) hb_rc386 hs_rs386 c386_2 k389_3

set_option maxRecDepth 100000 in
set_option maxHeartbeats 4000000 in
theorem s_La_law_403 {l : Launch} {X : ev_X} {bc bs n : Nat} {F : ev_H} {Z : ev_Z} {r1 : Nat} {r2 : Nat} {i3 : Int32} {is0 : Int32} {ir2_drafted : Int32} {ir2_rows : Int32} {ir2_segments : Int32} {ir2_stopped : Int32} {ir2_fuse : Int32} {ir2_written : Int32} {ir2_tokens : Int32} {ir2_height : Int32} {ir2_results : Int32} {ir2_weighed : Int32} {Q409 : Option Value → Nat → ev_H → Prop} {bc409 : Nat} {bs409 : Nat} {rc409 : Nat} {rs409 : Nat} (h_r2 : F r2 = some (moO r2 ir2_drafted ir2_rows ir2_segments ir2_stopped ir2_fuse ir2_written ir2_tokens ir2_height ir2_results ir2_weighed)) (hb_rc409 : rc409 + bc409 ≤ bc) (hs_rs409 : rs409 + bs409 ≤ bs)
    (in408_0 : vp_in (i3 + 1) X.2.2.2.2.1)
    (c409_1 : Cal l X M_Mo_phrase bc409 bs409 [.ref r2, .int (X.2.2.2.2.2 (i3 + 1).toNatClampNeg)] n F Q409)
    (k412_2 : ∀ v2 n2 F2, Q409 v2 n2 F2 → Ev l X M_Lw rc409 rs409 412 [(0, .ref (X.2.2.2.1 0)), (1, .ref r1), (2, .ref r2), (3, .int i3)] (v2.toList ++ [.int is0]) n2 F2 Z) :
    Ev l X M_Lw bc bs 403 [(0, .ref (X.2.2.2.1 0)), (1, .ref r1), (2, .ref r2), (3, .int i3)] [.int is0] n F Z := by
  refine ev_aload_n (pc := 403) d_La_law_403 rfl ?_
  refine ev_aload_n (pc := 404) d_La_law_404 rfl ?_
  refine ev_iload_n (pc := 405) d_La_law_405 rfl ?_
  refine ev_iconst (pc := 406) 1 d_La_law_406 (by decide) ?_
  refine ev_iadd (pc := 407) d_La_law_407 ?_
  refine ev_sld (pc := 408) d_La_law_408 in408_0 ?_
  exact ev_invokevirtual (pc := 409) (As := [.int (X.2.2.2.2.2 (i3 + 1).toNatClampNeg)]) (st := [.int is0]) (Q2 := Q409) M_Mo_phrase rC11 d_La_law_409 lc_La_60 wd_1111 wd_1112 rfl h_r2 rfl rfl (Nat.le_of_ble_eq_true rfl) (Nat.le_of_ble_eq_true rfl) (Nat.le_of_ble_eq_true rfl) hb_rc409 hs_rs409 c409_1 k412_2

set_option maxRecDepth 100000 in
set_option maxHeartbeats 4000000 in
theorem s_La_law_426 {l : Launch} {X : ev_X} {bc bs n : Nat} {F : ev_H} {Z : ev_Z} {r1 : Nat} {r2 : Nat} {i3 : Int32} {is0 : Int32} {ir2_drafted : Int32} {ir2_rows : Int32} {ir2_segments : Int32} {ir2_stopped : Int32} {ir2_fuse : Int32} {ir2_written : Int32} {ir2_tokens : Int32} {ir2_height : Int32} {ir2_results : Int32} {ir2_weighed : Int32} {Q432 : Option Value → Nat → ev_H → Prop} {bc432 : Nat} {bs432 : Nat} {rc432 : Nat} {rs432 : Nat} (h_r2 : F r2 = some (moO r2 ir2_drafted ir2_rows ir2_segments ir2_stopped ir2_fuse ir2_written ir2_tokens ir2_height ir2_results ir2_weighed)) (hb_rc432 : rc432 + bc432 ≤ bc) (hs_rs432 : rs432 + bs432 ≤ bs)
    (in431_0 : vp_in (i3 + 1) X.2.2.2.2.1)
    (c432_1 : Cal l X M_Mo_join bc432 bs432 [.ref r2, .int (X.2.2.2.2.2 (i3 + 1).toNatClampNeg)] n F Q432)
    (k435_2 : ∀ v2 n2 F2, Q432 v2 n2 F2 → Ev l X M_Lw rc432 rs432 435 [(0, .ref (X.2.2.2.1 0)), (1, .ref r1), (2, .ref r2), (3, .int i3)] (v2.toList ++ [.int is0]) n2 F2 Z) :
    Ev l X M_Lw bc bs 426 [(0, .ref (X.2.2.2.1 0)), (1, .ref r1), (2, .ref r2), (3, .int i3)] [.int is0] n F Z := by
  refine ev_aload_n (pc := 426) d_La_law_426 rfl ?_
  refine ev_aload_n (pc := 427) d_La_law_427 rfl ?_
  refine ev_iload_n (pc := 428) d_La_law_428 rfl ?_
  refine ev_iconst (pc := 429) 1 d_La_law_429 (by decide) ?_
  refine ev_iadd (pc := 430) d_La_law_430 ?_
  refine ev_sld (pc := 431) d_La_law_431 in431_0 ?_
  exact ev_invokevirtual (pc := 432) (As := [.int (X.2.2.2.2.2 (i3 + 1).toNatClampNeg)]) (st := [.int is0]) (Q2 := Q432) M_Mo_join rC11 d_La_law_432 lc_La_64 wd_1115 wd_1116 rfl h_r2 rfl rfl (Nat.le_of_ble_eq_true rfl) (Nat.le_of_ble_eq_true rfl) (Nat.le_of_ble_eq_true rfl) hb_rc432 hs_rs432 c432_1 k435_2

set_option maxRecDepth 100000 in
set_option maxHeartbeats 4000000 in
theorem s_La_law_444 {l : Launch} {X : ev_X} {bc bs n : Nat} {F : ev_H} {Z : ev_Z} {r1 : Nat} {r2 : Nat} {i3 : Int32} {is0 : Int32} {ir2_drafted : Int32} {ir2_rows : Int32} {ir2_segments : Int32} {ir2_stopped : Int32} {ir2_fuse : Int32} {ir2_written : Int32} {ir2_tokens : Int32} {ir2_height : Int32} {ir2_results : Int32} {ir2_weighed : Int32} {Q445 : Option Value → Nat → ev_H → Prop} {bc445 : Nat} {bs445 : Nat} {rc445 : Nat} {rs445 : Nat} (h_r2 : F r2 = some (moO r2 ir2_drafted ir2_rows ir2_segments ir2_stopped ir2_fuse ir2_written ir2_tokens ir2_height ir2_results ir2_weighed)) (hb_rc445 : rc445 + bc445 ≤ bc) (hs_rs445 : rs445 + bs445 ≤ bs)
    (c445_0 : Cal l X M_Mo_find bc445 bs445 [.ref r2] n F Q445)
    (k448_1 : ∀ v2 n2 F2, Q445 v2 n2 F2 → Ev l X M_Lw rc445 rs445 448 [(0, .ref (X.2.2.2.1 0)), (1, .ref r1), (2, .ref r2), (3, .int i3)] (v2.toList ++ [.int is0]) n2 F2 Z) :
    Ev l X M_Lw bc bs 444 [(0, .ref (X.2.2.2.1 0)), (1, .ref r1), (2, .ref r2), (3, .int i3)] [.int is0] n F Z := by
  refine ev_aload_n (pc := 444) d_La_law_444 rfl ?_
  exact ev_invokevirtual (pc := 445) (As := []) (st := [.int is0]) (Q2 := Q445) M_Mo_find rC11 d_La_law_445 lc_La_68 wd_1119 wd_1120 rfl h_r2 rfl rfl (Nat.le_of_ble_eq_true rfl) (Nat.le_of_ble_eq_true rfl) (Nat.le_of_ble_eq_true rfl) hb_rc445 hs_rs445 c445_0 k448_1

set_option maxRecDepth 100000 in
set_option maxHeartbeats 4000000 in
theorem s_La_law_462 {l : Launch} {X : ev_X} {bc bs n : Nat} {F : ev_H} {Z : ev_Z} {r1 : Nat} {r2 : Nat} {i3 : Int32} {is0 : Int32} {ir2_drafted : Int32} {ir2_rows : Int32} {ir2_segments : Int32} {ir2_stopped : Int32} {ir2_fuse : Int32} {ir2_written : Int32} {ir2_tokens : Int32} {ir2_height : Int32} {ir2_results : Int32} {ir2_weighed : Int32} {Q468 : Option Value → Nat → ev_H → Prop} {bc468 : Nat} {bs468 : Nat} {rc468 : Nat} {rs468 : Nat} (h_r2 : F r2 = some (moO r2 ir2_drafted ir2_rows ir2_segments ir2_stopped ir2_fuse ir2_written ir2_tokens ir2_height ir2_results ir2_weighed)) (hb_rc468 : rc468 + bc468 ≤ bc) (hs_rs468 : rs468 + bs468 ≤ bs)
    (in467_0 : vp_in (i3 + 1) X.2.2.2.2.1)
    (c468_1 : Cal l X M_Mo_rank bc468 bs468 [.ref r2, .int (X.2.2.2.2.2 (i3 + 1).toNatClampNeg)] n F Q468)
    (k471_2 : ∀ v2 n2 F2, Q468 v2 n2 F2 → Ev l X M_Lw rc468 rs468 471 [(0, .ref (X.2.2.2.1 0)), (1, .ref r1), (2, .ref r2), (3, .int i3)] (v2.toList ++ [.int is0]) n2 F2 Z) :
    Ev l X M_Lw bc bs 462 [(0, .ref (X.2.2.2.1 0)), (1, .ref r1), (2, .ref r2), (3, .int i3)] [.int is0] n F Z := by
  refine ev_aload_n (pc := 462) d_La_law_462 rfl ?_
  refine ev_aload_n (pc := 463) d_La_law_463 rfl ?_
  refine ev_iload_n (pc := 464) d_La_law_464 rfl ?_
  refine ev_iconst (pc := 465) 1 d_La_law_465 (by decide) ?_
  refine ev_iadd (pc := 466) d_La_law_466 ?_
  refine ev_sld (pc := 467) d_La_law_467 in467_0 ?_
  exact ev_invokevirtual (pc := 468) (As := [.int (X.2.2.2.2.2 (i3 + 1).toNatClampNeg)]) (st := [.int is0]) (Q2 := Q468) M_Mo_rank rC11 d_La_law_468 lc_La_72 wd_1139 wd_1140 rfl h_r2 rfl rfl (Nat.le_of_ble_eq_true rfl) (Nat.le_of_ble_eq_true rfl) (Nat.le_of_ble_eq_true rfl) hb_rc468 hs_rs468 c468_1 k471_2

set_option maxRecDepth 100000 in
set_option maxHeartbeats 4000000 in
theorem s_La_law_485 {l : Launch} {X : ev_X} {bc bs n : Nat} {F : ev_H} {Z : ev_Z} {r1 : Nat} {r2 : Nat} {i3 : Int32} {is0 : Int32} {ir2_drafted : Int32} {ir2_rows : Int32} {ir2_segments : Int32} {ir2_stopped : Int32} {ir2_fuse : Int32} {ir2_written : Int32} {ir2_tokens : Int32} {ir2_height : Int32} {ir2_results : Int32} {ir2_weighed : Int32} {Q491 : Option Value → Nat → ev_H → Prop} {bc491 : Nat} {bs491 : Nat} {rc491 : Nat} {rs491 : Nat} (h_r2 : F r2 = some (moO r2 ir2_drafted ir2_rows ir2_segments ir2_stopped ir2_fuse ir2_written ir2_tokens ir2_height ir2_results ir2_weighed)) (hb_rc491 : rc491 + bc491 ≤ bc) (hs_rs491 : rs491 + bs491 ≤ bs)
    (in490_0 : vp_in (i3 + 1) X.2.2.2.2.1)
    (c491_1 : Cal l X M_Mo_result bc491 bs491 [.ref r2, .int (X.2.2.2.2.2 (i3 + 1).toNatClampNeg)] n F Q491)
    (k494_2 : ∀ v2 n2 F2, Q491 v2 n2 F2 → Ev l X M_Lw rc491 rs491 494 [(0, .ref (X.2.2.2.1 0)), (1, .ref r1), (2, .ref r2), (3, .int i3)] (v2.toList ++ [.int is0]) n2 F2 Z) :
    Ev l X M_Lw bc bs 485 [(0, .ref (X.2.2.2.1 0)), (1, .ref r1), (2, .ref r2), (3, .int i3)] [.int is0] n F Z := by
  refine ev_aload_n (pc := 485) d_La_law_485 rfl ?_
  refine ev_aload_n (pc := 486) d_La_law_486 rfl ?_
  refine ev_iload_n (pc := 487) d_La_law_487 rfl ?_
  refine ev_iconst (pc := 488) 1 d_La_law_488 (by decide) ?_
  refine ev_iadd (pc := 489) d_La_law_489 ?_
  refine ev_sld (pc := 490) d_La_law_490 in490_0 ?_
  exact ev_invokevirtual (pc := 491) (As := [.int (X.2.2.2.2.2 (i3 + 1).toNatClampNeg)]) (st := [.int is0]) (Q2 := Q491) M_Mo_result rC11 d_La_law_491 lc_La_76 wd_1183 wd_1184 rfl h_r2 rfl rfl (Nat.le_of_ble_eq_true rfl) (Nat.le_of_ble_eq_true rfl) (Nat.le_of_ble_eq_true rfl) hb_rc491 hs_rs491 c491_1 k494_2

set_option maxRecDepth 100000 in
set_option maxHeartbeats 4000000 in
theorem s_La_law_508 {l : Launch} {X : ev_X} {bc bs n : Nat} {F : ev_H} {Z : ev_Z} {r1 : Nat} {r2 : Nat} {i3 : Int32} {is0 : Int32} {ir2_drafted : Int32} {ir2_rows : Int32} {ir2_segments : Int32} {ir2_stopped : Int32} {ir2_fuse : Int32} {ir2_written : Int32} {ir2_tokens : Int32} {ir2_height : Int32} {ir2_results : Int32} {ir2_weighed : Int32} {Q514 : Option Value → Nat → ev_H → Prop} {bc514 : Nat} {bs514 : Nat} {rc514 : Nat} {rs514 : Nat} (h_r2 : F r2 = some (moO r2 ir2_drafted ir2_rows ir2_segments ir2_stopped ir2_fuse ir2_written ir2_tokens ir2_height ir2_results ir2_weighed)) (hb_rc514 : rc514 + bc514 ≤ bc) (hs_rs514 : rs514 + bs514 ≤ bs)
    (in513_0 : vp_in (i3 + 1) X.2.2.2.2.1)
    (c514_1 : Cal l X M_Mo_weight bc514 bs514 [.ref r2, .int (X.2.2.2.2.2 (i3 + 1).toNatClampNeg)] n F Q514)
    (k517_2 : ∀ v2 n2 F2, Q514 v2 n2 F2 → Ev l X M_Lw rc514 rs514 517 [(0, .ref (X.2.2.2.1 0)), (1, .ref r1), (2, .ref r2), (3, .int i3)] (v2.toList ++ [.int is0]) n2 F2 Z) :
    Ev l X M_Lw bc bs 508 [(0, .ref (X.2.2.2.1 0)), (1, .ref r1), (2, .ref r2), (3, .int i3)] [.int is0] n F Z := by
  refine ev_aload_n (pc := 508) d_La_law_508 rfl ?_
  refine ev_aload_n (pc := 509) d_La_law_509 rfl ?_
  refine ev_iload_n (pc := 510) d_La_law_510 rfl ?_
  refine ev_iconst (pc := 511) 1 d_La_law_511 (by decide) ?_
  refine ev_iadd (pc := 512) d_La_law_512 ?_
  refine ev_sld (pc := 513) d_La_law_513 in513_0 ?_
  exact ev_invokevirtual (pc := 514) (As := [.int (X.2.2.2.2.2 (i3 + 1).toNatClampNeg)]) (st := [.int is0]) (Q2 := Q514) M_Mo_weight rC11 d_La_law_514 lc_La_80 wd_1187 wd_1188 rfl h_r2 rfl rfl (Nat.le_of_ble_eq_true rfl) (Nat.le_of_ble_eq_true rfl) (Nat.le_of_ble_eq_true rfl) hb_rc514 hs_rs514 c514_1 k517_2

set_option maxRecDepth 100000 in
set_option maxHeartbeats 4000000 in
theorem s_La_law_526 {l : Launch} {X : ev_X} {bc bs n : Nat} {F : ev_H} {Z : ev_Z} {r1 : Nat} {r2 : Nat} {i3 : Int32} {is0 : Int32} {ir2_drafted : Int32} {ir2_rows : Int32} {ir2_segments : Int32} {ir2_stopped : Int32} {ir2_fuse : Int32} {ir2_written : Int32} {ir2_tokens : Int32} {ir2_height : Int32} {ir2_results : Int32} {ir2_weighed : Int32} {Q527 : Option Value → Nat → ev_H → Prop} {bc527 : Nat} {bs527 : Nat} {rc527 : Nat} {rs527 : Nat} (h_r2 : F r2 = some (moO r2 ir2_drafted ir2_rows ir2_segments ir2_stopped ir2_fuse ir2_written ir2_tokens ir2_height ir2_results ir2_weighed)) (hb_rc527 : rc527 + bc527 ≤ bc) (hs_rs527 : rs527 + bs527 ≤ bs)
    (c527_0 : Cal l X M_Mo_weighed bc527 bs527 [.ref r2] n F Q527)
    (k530_1 : ∀ v2 n2 F2, Q527 v2 n2 F2 → Ev l X M_Lw rc527 rs527 530 [(0, .ref (X.2.2.2.1 0)), (1, .ref r1), (2, .ref r2), (3, .int i3)] (v2.toList ++ [.int is0]) n2 F2 Z) :
    Ev l X M_Lw bc bs 526 [(0, .ref (X.2.2.2.1 0)), (1, .ref r1), (2, .ref r2), (3, .int i3)] [.int is0] n F Z := by
  refine ev_aload_n (pc := 526) d_La_law_526 rfl ?_
  exact ev_invokevirtual (pc := 527) (As := []) (st := [.int is0]) (Q2 := Q527) M_Mo_weighed rC11 d_La_law_527 lc_La_84 wd_1191 wd_1192 rfl h_r2 rfl rfl (Nat.le_of_ble_eq_true rfl) (Nat.le_of_ble_eq_true rfl) (Nat.le_of_ble_eq_true rfl) hb_rc527 hs_rs527 c527_0 k530_1

set_option maxRecDepth 100000 in
set_option maxHeartbeats 4000000 in
theorem s_La_law_544 {l : Launch} {X : ev_X} {bc bs n : Nat} {F : ev_H} {Z : ev_Z} {r1 : Nat} {r2 : Nat} {i3 : Int32} {is0 : Int32} {ir2_drafted : Int32} {ir2_rows : Int32} {ir2_segments : Int32} {ir2_stopped : Int32} {ir2_fuse : Int32} {ir2_written : Int32} {ir2_tokens : Int32} {ir2_height : Int32} {ir2_results : Int32} {ir2_weighed : Int32} {Q550 : Option Value → Nat → ev_H → Prop} {bc550 : Nat} {bs550 : Nat} {rc550 : Nat} {rs550 : Nat} (h_r2 : F r2 = some (moO r2 ir2_drafted ir2_rows ir2_segments ir2_stopped ir2_fuse ir2_written ir2_tokens ir2_height ir2_results ir2_weighed)) (hb_rc550 : rc550 + bc550 ≤ bc) (hs_rs550 : rs550 + bs550 ≤ bs)
    (in549_0 : vp_in (i3 + 1) X.2.2.2.2.1)
    (c550_1 : Cal l X M_Mo_size bc550 bs550 [.ref r2, .int (X.2.2.2.2.2 (i3 + 1).toNatClampNeg)] n F Q550)
    (k553_2 : ∀ v2 n2 F2, Q550 v2 n2 F2 → Ev l X M_Lw rc550 rs550 553 [(0, .ref (X.2.2.2.1 0)), (1, .ref r1), (2, .ref r2), (3, .int i3)] (v2.toList ++ [.int is0]) n2 F2 Z) :
    Ev l X M_Lw bc bs 544 [(0, .ref (X.2.2.2.1 0)), (1, .ref r1), (2, .ref r2), (3, .int i3)] [.int is0] n F Z := by
  refine ev_aload_n (pc := 544) d_La_law_544 rfl ?_
  refine ev_aload_n (pc := 545) d_La_law_545 rfl ?_
  refine ev_iload_n (pc := 546) d_La_law_546 rfl ?_
  refine ev_iconst (pc := 547) 1 d_La_law_547 (by decide) ?_
  refine ev_iadd (pc := 548) d_La_law_548 ?_
  refine ev_sld (pc := 549) d_La_law_549 in549_0 ?_
  exact ev_invokevirtual (pc := 550) (As := [.int (X.2.2.2.2.2 (i3 + 1).toNatClampNeg)]) (st := [.int is0]) (Q2 := Q550) M_Mo_size rC11 d_La_law_550 lc_La_88 wd_1195 wd_1196 rfl h_r2 rfl rfl (Nat.le_of_ble_eq_true rfl) (Nat.le_of_ble_eq_true rfl) (Nat.le_of_ble_eq_true rfl) hb_rc550 hs_rs550 c550_1 k553_2

set_option maxRecDepth 100000 in
set_option maxHeartbeats 4000000 in
theorem s_La_law_15 {l : Launch} {X : ev_X} {bc bs n : Nat} {F : ev_H} {Z : ev_Z} {r1 : Nat} {rs0 : Nat} 
    (k18_0 : Ev l X M_Lw bc bs 18 [(0, .ref (X.2.2.2.1 0)), (1, .ref r1), (2, .ref rs0), (3, .int 0)] [] n F Z) :
    Ev l X M_Lw bc bs 15 [(0, .ref (X.2.2.2.1 0)), (1, .ref r1)] [.ref rs0] n F Z := by
  refine ev_astore_n (pc := 15) d_La_law_15 (Nat.le_of_ble_eq_true rfl) [1, 2, 0] rfl ?_
  refine ev_iconst (pc := 16) 0 d_La_law_16 (by decide) ?_
  refine ev_istore_n (pc := 17) d_La_law_17 (Nat.le_of_ble_eq_true rfl) [1, 2, 3, 0] rfl ?_
  exact k18_0

set_option maxRecDepth 100000 in
set_option maxHeartbeats 4000000 in
theorem s_La_law_164 {l : Launch} {X : ev_X} {bc bs n : Nat} {F : ev_H} {Z : ev_Z} {r1 : Nat} {r2 : Nat} {i3 : Int32} {js0 : Int64} {js1 : Int64} 
    (k558_0 : ((lg_cmp js0 js1) = 0) → Ev l X M_Lw bc bs 558 [(0, .ref (X.2.2.2.1 0)), (1, .ref r1), (2, .ref r2), (3, .int i3)] [] n F Z)
    (k168_1 : (¬ (lg_cmp js0 js1) = 0) → Ev l X M_Lw bc bs 168 [(0, .ref (X.2.2.2.1 0)), (1, .ref r1), (2, .ref r2), (3, .int i3)] [] n F Z) :
    Ev l X M_Lw bc bs 164 [(0, .ref (X.2.2.2.1 0)), (1, .ref r1), (2, .ref r2), (3, .int i3)] [.long js1, .long js0] n F Z := by
  refine ev_lcmp (pc := 164) d_La_law_164 ?_
  refine ev_if_eq (pc := 165) 558 d_La_law_165 (by decide) (fun c165 => ?_) (fun c165 => ?_)
  · exact (k558_0 c165)
  · exact (k168_1 c165)

set_option maxRecDepth 100000 in
set_option maxHeartbeats 4000000 in
theorem s_La_law_218 {l : Launch} {X : ev_X} {bc bs n : Nat} {F : ev_H} {Z : ev_Z} {r1 : Nat} {r2 : Nat} {i3 : Int32} {is0 : Int32} {is1 : Int32} 
    (k558_0 : (is0 = is1) → Ev l X M_Lw bc bs 558 [(0, .ref (X.2.2.2.1 0)), (1, .ref r1), (2, .ref r2), (3, .int i3)] [] n F Z)
    (k221_1 : (¬ is0 = is1) → Ev l X M_Lw bc bs 221 [(0, .ref (X.2.2.2.1 0)), (1, .ref r1), (2, .ref r2), (3, .int i3)] [] n F Z) :
    Ev l X M_Lw bc bs 218 [(0, .ref (X.2.2.2.1 0)), (1, .ref r1), (2, .ref r2), (3, .int i3)] [.int is1, .int is0] n F Z := by
  refine ev_icmp_eq (pc := 218) 558 d_La_law_218 (by decide) (fun c218 => ?_) (fun c218 => ?_)
  · exact (k558_0 c218)
  · exact (k221_1 c218)

set_option maxRecDepth 100000 in
set_option maxHeartbeats 4000000 in
theorem s_La_law_241 {l : Launch} {X : ev_X} {bc bs n : Nat} {F : ev_H} {Z : ev_Z} {r1 : Nat} {r2 : Nat} {i3 : Int32} {is0 : Int32} {is1 : Int32} 
    (k558_0 : (is0 = is1) → Ev l X M_Lw bc bs 558 [(0, .ref (X.2.2.2.1 0)), (1, .ref r1), (2, .ref r2), (3, .int i3)] [] n F Z)
    (k244_1 : (¬ is0 = is1) → Ev l X M_Lw bc bs 244 [(0, .ref (X.2.2.2.1 0)), (1, .ref r1), (2, .ref r2), (3, .int i3)] [] n F Z) :
    Ev l X M_Lw bc bs 241 [(0, .ref (X.2.2.2.1 0)), (1, .ref r1), (2, .ref r2), (3, .int i3)] [.int is1, .int is0] n F Z := by
  refine ev_icmp_eq (pc := 241) 558 d_La_law_241 (by decide) (fun c241 => ?_) (fun c241 => ?_)
  · exact (k558_0 c241)
  · exact (k244_1 c241)

set_option maxRecDepth 100000 in
set_option maxHeartbeats 4000000 in
theorem s_La_law_264 {l : Launch} {X : ev_X} {bc bs n : Nat} {F : ev_H} {Z : ev_Z} {r1 : Nat} {r2 : Nat} {i3 : Int32} {is0 : Int32} {is1 : Int32} 
    (k558_0 : (is0 = is1) → Ev l X M_Lw bc bs 558 [(0, .ref (X.2.2.2.1 0)), (1, .ref r1), (2, .ref r2), (3, .int i3)] [] n F Z)
    (k267_1 : (¬ is0 = is1) → Ev l X M_Lw bc bs 267 [(0, .ref (X.2.2.2.1 0)), (1, .ref r1), (2, .ref r2), (3, .int i3)] [] n F Z) :
    Ev l X M_Lw bc bs 264 [(0, .ref (X.2.2.2.1 0)), (1, .ref r1), (2, .ref r2), (3, .int i3)] [.int is1, .int is0] n F Z := by
  refine ev_icmp_eq (pc := 264) 558 d_La_law_264 (by decide) (fun c264 => ?_) (fun c264 => ?_)
  · exact (k558_0 c264)
  · exact (k267_1 c264)

set_option maxRecDepth 100000 in
set_option maxHeartbeats 4000000 in
theorem s_La_law_277 {l : Launch} {X : ev_X} {bc bs n : Nat} {F : ev_H} {Z : ev_Z} {r1 : Nat} {r2 : Nat} {i3 : Int32} {is0 : Int32} {is1 : Int32} 
    (k558_0 : (is0 = is1) → Ev l X M_Lw bc bs 558 [(0, .ref (X.2.2.2.1 0)), (1, .ref r1), (2, .ref r2), (3, .int i3)] [] n F Z)
    (k280_1 : (¬ is0 = is1) → Ev l X M_Lw bc bs 280 [(0, .ref (X.2.2.2.1 0)), (1, .ref r1), (2, .ref r2), (3, .int i3)] [] n F Z) :
    Ev l X M_Lw bc bs 277 [(0, .ref (X.2.2.2.1 0)), (1, .ref r1), (2, .ref r2), (3, .int i3)] [.int is1, .int is0] n F Z := by
  refine ev_icmp_eq (pc := 277) 558 d_La_law_277 (by decide) (fun c277 => ?_) (fun c277 => ?_)
  · exact (k558_0 c277)
  · exact (k280_1 c277)

set_option maxRecDepth 100000 in
set_option maxHeartbeats 4000000 in
theorem s_La_law_300 {l : Launch} {X : ev_X} {bc bs n : Nat} {F : ev_H} {Z : ev_Z} {r1 : Nat} {r2 : Nat} {i3 : Int32} {is0 : Int32} {is1 : Int32} 
    (k558_0 : (is0 = is1) → Ev l X M_Lw bc bs 558 [(0, .ref (X.2.2.2.1 0)), (1, .ref r1), (2, .ref r2), (3, .int i3)] [] n F Z)
    (k303_1 : (¬ is0 = is1) → Ev l X M_Lw bc bs 303 [(0, .ref (X.2.2.2.1 0)), (1, .ref r1), (2, .ref r2), (3, .int i3)] [] n F Z) :
    Ev l X M_Lw bc bs 300 [(0, .ref (X.2.2.2.1 0)), (1, .ref r1), (2, .ref r2), (3, .int i3)] [.int is1, .int is0] n F Z := by
  refine ev_icmp_eq (pc := 300) 558 d_La_law_300 (by decide) (fun c300 => ?_) (fun c300 => ?_)
  · exact (k558_0 c300)
  · exact (k303_1 c300)

set_option maxRecDepth 100000 in
set_option maxHeartbeats 4000000 in
theorem s_La_law_323 {l : Launch} {X : ev_X} {bc bs n : Nat} {F : ev_H} {Z : ev_Z} {r1 : Nat} {r2 : Nat} {i3 : Int32} {is0 : Int32} {is1 : Int32} 
    (k558_0 : (is0 = is1) → Ev l X M_Lw bc bs 558 [(0, .ref (X.2.2.2.1 0)), (1, .ref r1), (2, .ref r2), (3, .int i3)] [] n F Z)
    (k326_1 : (¬ is0 = is1) → Ev l X M_Lw bc bs 326 [(0, .ref (X.2.2.2.1 0)), (1, .ref r1), (2, .ref r2), (3, .int i3)] [] n F Z) :
    Ev l X M_Lw bc bs 323 [(0, .ref (X.2.2.2.1 0)), (1, .ref r1), (2, .ref r2), (3, .int i3)] [.int is1, .int is0] n F Z := by
  refine ev_icmp_eq (pc := 323) 558 d_La_law_323 (by decide) (fun c323 => ?_) (fun c323 => ?_)
  · exact (k558_0 c323)
  · exact (k326_1 c323)

set_option maxRecDepth 100000 in
set_option maxHeartbeats 4000000 in
theorem s_La_law_336 {l : Launch} {X : ev_X} {bc bs n : Nat} {F : ev_H} {Z : ev_Z} {r1 : Nat} {r2 : Nat} {i3 : Int32} {is0 : Int32} {is1 : Int32} 
    (k558_0 : (is0 = is1) → Ev l X M_Lw bc bs 558 [(0, .ref (X.2.2.2.1 0)), (1, .ref r1), (2, .ref r2), (3, .int i3)] [] n F Z)
    (k339_1 : (¬ is0 = is1) → Ev l X M_Lw bc bs 339 [(0, .ref (X.2.2.2.1 0)), (1, .ref r1), (2, .ref r2), (3, .int i3)] [] n F Z) :
    Ev l X M_Lw bc bs 336 [(0, .ref (X.2.2.2.1 0)), (1, .ref r1), (2, .ref r2), (3, .int i3)] [.int is1, .int is0] n F Z := by
  refine ev_icmp_eq (pc := 336) 558 d_La_law_336 (by decide) (fun c336 => ?_) (fun c336 => ?_)
  · exact (k558_0 c336)
  · exact (k339_1 c336)

set_option maxRecDepth 100000 in
set_option maxHeartbeats 4000000 in
theorem s_La_law_389 {l : Launch} {X : ev_X} {bc bs n : Nat} {F : ev_H} {Z : ev_Z} {r1 : Nat} {r2 : Nat} {i3 : Int32} {is0 : Int32} {is1 : Int32} 
    (k558_0 : (is0 = is1) → Ev l X M_Lw bc bs 558 [(0, .ref (X.2.2.2.1 0)), (1, .ref r1), (2, .ref r2), (3, .int i3)] [] n F Z)
    (k392_1 : (¬ is0 = is1) → Ev l X M_Lw bc bs 392 [(0, .ref (X.2.2.2.1 0)), (1, .ref r1), (2, .ref r2), (3, .int i3)] [] n F Z) :
    Ev l X M_Lw bc bs 389 [(0, .ref (X.2.2.2.1 0)), (1, .ref r1), (2, .ref r2), (3, .int i3)] [.int is1, .int is0] n F Z := by
  refine ev_icmp_eq (pc := 389) 558 d_La_law_389 (by decide) (fun c389 => ?_) (fun c389 => ?_)
  · exact (k558_0 c389)
  · exact (k392_1 c389)

set_option maxRecDepth 100000 in
set_option maxHeartbeats 4000000 in
theorem s_La_law_412 {l : Launch} {X : ev_X} {bc bs n : Nat} {F : ev_H} {Z : ev_Z} {r1 : Nat} {r2 : Nat} {i3 : Int32} {is0 : Int32} {is1 : Int32} 
    (k558_0 : (is0 = is1) → Ev l X M_Lw bc bs 558 [(0, .ref (X.2.2.2.1 0)), (1, .ref r1), (2, .ref r2), (3, .int i3)] [] n F Z)
    (k415_1 : (¬ is0 = is1) → Ev l X M_Lw bc bs 415 [(0, .ref (X.2.2.2.1 0)), (1, .ref r1), (2, .ref r2), (3, .int i3)] [] n F Z) :
    Ev l X M_Lw bc bs 412 [(0, .ref (X.2.2.2.1 0)), (1, .ref r1), (2, .ref r2), (3, .int i3)] [.int is1, .int is0] n F Z := by
  refine ev_icmp_eq (pc := 412) 558 d_La_law_412 (by decide) (fun c412 => ?_) (fun c412 => ?_)
  · exact (k558_0 c412)
  · exact (k415_1 c412)

set_option maxRecDepth 100000 in
set_option maxHeartbeats 4000000 in
theorem s_La_law_435 {l : Launch} {X : ev_X} {bc bs n : Nat} {F : ev_H} {Z : ev_Z} {r1 : Nat} {r2 : Nat} {i3 : Int32} {is0 : Int32} {is1 : Int32} 
    (k558_0 : (is0 = is1) → Ev l X M_Lw bc bs 558 [(0, .ref (X.2.2.2.1 0)), (1, .ref r1), (2, .ref r2), (3, .int i3)] [] n F Z)
    (k438_1 : (¬ is0 = is1) → Ev l X M_Lw bc bs 438 [(0, .ref (X.2.2.2.1 0)), (1, .ref r1), (2, .ref r2), (3, .int i3)] [] n F Z) :
    Ev l X M_Lw bc bs 435 [(0, .ref (X.2.2.2.1 0)), (1, .ref r1), (2, .ref r2), (3, .int i3)] [.int is1, .int is0] n F Z := by
  refine ev_icmp_eq (pc := 435) 558 d_La_law_435 (by decide) (fun c435 => ?_) (fun c435 => ?_)
  · exact (k558_0 c435)
  · exact (k438_1 c435)

set_option maxRecDepth 100000 in
set_option maxHeartbeats 4000000 in
theorem s_La_law_448 {l : Launch} {X : ev_X} {bc bs n : Nat} {F : ev_H} {Z : ev_Z} {r1 : Nat} {r2 : Nat} {i3 : Int32} {is0 : Int32} {is1 : Int32} 
    (k558_0 : (is0 = is1) → Ev l X M_Lw bc bs 558 [(0, .ref (X.2.2.2.1 0)), (1, .ref r1), (2, .ref r2), (3, .int i3)] [] n F Z)
    (k451_1 : (¬ is0 = is1) → Ev l X M_Lw bc bs 451 [(0, .ref (X.2.2.2.1 0)), (1, .ref r1), (2, .ref r2), (3, .int i3)] [] n F Z) :
    Ev l X M_Lw bc bs 448 [(0, .ref (X.2.2.2.1 0)), (1, .ref r1), (2, .ref r2), (3, .int i3)] [.int is1, .int is0] n F Z := by
  refine ev_icmp_eq (pc := 448) 558 d_La_law_448 (by decide) (fun c448 => ?_) (fun c448 => ?_)
  · exact (k558_0 c448)
  · exact (k451_1 c448)

set_option maxRecDepth 100000 in
set_option maxHeartbeats 4000000 in
theorem s_La_law_471 {l : Launch} {X : ev_X} {bc bs n : Nat} {F : ev_H} {Z : ev_Z} {r1 : Nat} {r2 : Nat} {i3 : Int32} {is0 : Int32} {is1 : Int32} 
    (k558_0 : (is0 = is1) → Ev l X M_Lw bc bs 558 [(0, .ref (X.2.2.2.1 0)), (1, .ref r1), (2, .ref r2), (3, .int i3)] [] n F Z)
    (k474_1 : (¬ is0 = is1) → Ev l X M_Lw bc bs 474 [(0, .ref (X.2.2.2.1 0)), (1, .ref r1), (2, .ref r2), (3, .int i3)] [] n F Z) :
    Ev l X M_Lw bc bs 471 [(0, .ref (X.2.2.2.1 0)), (1, .ref r1), (2, .ref r2), (3, .int i3)] [.int is1, .int is0] n F Z := by
  refine ev_icmp_eq (pc := 471) 558 d_La_law_471 (by decide) (fun c471 => ?_) (fun c471 => ?_)
  · exact (k558_0 c471)
  · exact (k474_1 c471)

set_option maxRecDepth 100000 in
set_option maxHeartbeats 4000000 in
theorem s_La_law_494 {l : Launch} {X : ev_X} {bc bs n : Nat} {F : ev_H} {Z : ev_Z} {r1 : Nat} {r2 : Nat} {i3 : Int32} {is0 : Int32} {is1 : Int32} 
    (k558_0 : (is0 = is1) → Ev l X M_Lw bc bs 558 [(0, .ref (X.2.2.2.1 0)), (1, .ref r1), (2, .ref r2), (3, .int i3)] [] n F Z)
    (k497_1 : (¬ is0 = is1) → Ev l X M_Lw bc bs 497 [(0, .ref (X.2.2.2.1 0)), (1, .ref r1), (2, .ref r2), (3, .int i3)] [] n F Z) :
    Ev l X M_Lw bc bs 494 [(0, .ref (X.2.2.2.1 0)), (1, .ref r1), (2, .ref r2), (3, .int i3)] [.int is1, .int is0] n F Z := by
  refine ev_icmp_eq (pc := 494) 558 d_La_law_494 (by decide) (fun c494 => ?_) (fun c494 => ?_)
  · exact (k558_0 c494)
  · exact (k497_1 c494)

set_option maxRecDepth 100000 in
set_option maxHeartbeats 4000000 in
theorem s_La_law_517 {l : Launch} {X : ev_X} {bc bs n : Nat} {F : ev_H} {Z : ev_Z} {r1 : Nat} {r2 : Nat} {i3 : Int32} {is0 : Int32} {is1 : Int32} 
    (k558_0 : (is0 = is1) → Ev l X M_Lw bc bs 558 [(0, .ref (X.2.2.2.1 0)), (1, .ref r1), (2, .ref r2), (3, .int i3)] [] n F Z)
    (k520_1 : (¬ is0 = is1) → Ev l X M_Lw bc bs 520 [(0, .ref (X.2.2.2.1 0)), (1, .ref r1), (2, .ref r2), (3, .int i3)] [] n F Z) :
    Ev l X M_Lw bc bs 517 [(0, .ref (X.2.2.2.1 0)), (1, .ref r1), (2, .ref r2), (3, .int i3)] [.int is1, .int is0] n F Z := by
  refine ev_icmp_eq (pc := 517) 558 d_La_law_517 (by decide) (fun c517 => ?_) (fun c517 => ?_)
  · exact (k558_0 c517)
  · exact (k520_1 c517)

set_option maxRecDepth 100000 in
set_option maxHeartbeats 4000000 in
theorem s_La_law_530 {l : Launch} {X : ev_X} {bc bs n : Nat} {F : ev_H} {Z : ev_Z} {r1 : Nat} {r2 : Nat} {i3 : Int32} {is0 : Int32} {is1 : Int32} 
    (k558_0 : (is0 = is1) → Ev l X M_Lw bc bs 558 [(0, .ref (X.2.2.2.1 0)), (1, .ref r1), (2, .ref r2), (3, .int i3)] [] n F Z)
    (k533_1 : (¬ is0 = is1) → Ev l X M_Lw bc bs 533 [(0, .ref (X.2.2.2.1 0)), (1, .ref r1), (2, .ref r2), (3, .int i3)] [] n F Z) :
    Ev l X M_Lw bc bs 530 [(0, .ref (X.2.2.2.1 0)), (1, .ref r1), (2, .ref r2), (3, .int i3)] [.int is1, .int is0] n F Z := by
  refine ev_icmp_eq (pc := 530) 558 d_La_law_530 (by decide) (fun c530 => ?_) (fun c530 => ?_)
  · exact (k558_0 c530)
  · exact (k533_1 c530)

set_option maxRecDepth 100000 in
set_option maxHeartbeats 4000000 in
theorem s_La_law_553 {l : Launch} {X : ev_X} {bc bs n : Nat} {F : ev_H} {Z : ev_Z} {r1 : Nat} {r2 : Nat} {i3 : Int32} {is0 : Int32} {is1 : Int32} 
    (k558_0 : (is0 = is1) → Ev l X M_Lw bc bs 558 [(0, .ref (X.2.2.2.1 0)), (1, .ref r1), (2, .ref r2), (3, .int i3)] [] n F Z)
    (k556_1 : (¬ is0 = is1) → Ev l X M_Lw bc bs 556 [(0, .ref (X.2.2.2.1 0)), (1, .ref r1), (2, .ref r2), (3, .int i3)] [] n F Z) :
    Ev l X M_Lw bc bs 553 [(0, .ref (X.2.2.2.1 0)), (1, .ref r1), (2, .ref r2), (3, .int i3)] [.int is1, .int is0] n F Z := by
  refine ev_icmp_eq (pc := 553) 558 d_La_law_553 (by decide) (fun c553 => ?_) (fun c553 => ?_)
  · exact (k558_0 c553)
  · exact (k556_1 c553)
