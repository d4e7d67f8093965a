/-! the reference's stems: contracts -/
theorem w_put {N m c : Nat} (h : N < 32 ^ m) (hm : m < 12) (hc : c < 32) : lN N ||| (lN c <<< ((5 * nI m).toInt64 &&& 63)) = lN (N + c * 32 ^ m) := by
  have h1 : N + c * 32 ^ m < 2 ^ 64 := by
    have a := Nat.mul_le_mul_right (32 ^ m) (show c + 1 ≤ 32 by omega)
    rw [Nat.add_mul] at a
    have b := pow32_le (show m + 1 ≤ 12 by omega)
    rw [Nat.pow_succ] at b
    have d : (32 : Nat) ^ 12 < 2 ^ 64 := by decide
    omega
  rw [g_shl (w_sh5u m (by omega)) (by omega) (w_p5 m) (by omega), g_or' (w_p5 m) h h1]
theorem bI_n0 {b : Bool} (h : ¬ bI b = 0) : b = true := by
  cases b with
  | true => rfl
  | false => exact absurd (bI_1.mpr rfl) h
section MoWords
variable {l : Launch} {X : ev_X} {n : Nat} {F : ev_H}
theorem c_Mo_plural {N : Nat} (h : N < 32 ^ 12) : Cal l X M_Mo_plural 0 0 [.long (lN N)] n F (ev_pure (.long (lN (st_plural N))) n F) := by
  have two : ∀ E, en N E = true → 2 ≤ sl E → Cal l X M_Mo_without 0 0 [.long (lN N), .int 2] n F (ev_pure (.long (lN (N % 32 ^ (sl N - 2)))) n F) := fun E h1 h2 => c_Mo_without (k := 2) h (Nat.le_trans h2 (en_le h1))
  refine Cal.of (by decide) (Nat.le_of_ble_eq_true rfl) (s_Mo_plural_0 (v8 := lN (T4 19 19 5 19)) (v11 := bI (en N (T4 19 19 5 19))) (v35 := lN (N % 32 ^ (sl N - 2))) (v24 := lN (T4 9 5 19 0)) (v27 := bI (en N (T4 9 5 19 0))) (v45 := lN (T4 19 0 0 0)) (v48 := bI (en N (T4 19 0 0 0))) (v61 := lN (T4 19 19 0 0)) (v64 := bI (en N (T4 19 19 0 0))) (v72 := lN (N % 32 ^ (sl N - 1))) (v35_2 := lN (N % 32 ^ (sl N - 2)))
    (c_Mo_text (by decide +kernel)) (c_Mo_ends h (by decide +kernel)) (fun a => two _ (bI_n0 a) (by decide +kernel)) (fun a => ⟨?_, rfl, rfl⟩) (fun _ => c_Mo_text (by decide +kernel)) (fun _ => c_Mo_ends h (by decide +kernel)) (fun _ _ => c_Mo_text (by decide +kernel)) (fun _ _ => c_Mo_ends h (by decide +kernel)) (fun a b c => ⟨?_, rfl, rfl⟩) (fun _ _ _ => c_Mo_text (by decide +kernel)) (fun _ _ _ => c_Mo_ends h (by decide +kernel)) (fun a b c d => ⟨?_, rfl, rfl⟩) (fun a b c d => c_Mo_without (k := 1) h ?_) (fun a b c d => ⟨?_, rfl, rfl⟩) (fun _ b => two _ (bI_n0 b) (by decide +kernel)) (fun a b => ⟨?_, rfl, rfl⟩))
  · simp [st_plural, bI_n0 a]
  · simp [st_plural, bI_1.mp a, bI_1.mp b, bI_1.mp c]
  · simp [st_plural, bI_1.mp a, bI_1.mp b, bI_n0 d]
  · exact Nat.le_trans (show 1 ≤ sl (T4 19 0 0 0) from by decide +kernel) (en_le (bI_n0 c))
  · simp [st_plural, bI_1.mp a, bI_1.mp b, bI_n0 c, bI_1.mp d]
  · simp [st_plural, bI_1.mp a, bI_n0 b]
theorem c_Mo_shortEnd {N : Nat} (h : N < 32 ^ 12) : Cal l X M_Mo_shortEnd 0 0 [.long (lN N)] n F (ev_pure (.int (bI (st_short N))) n F) := by
  have h62 : N < 2 ^ 62 := Nat.lt_of_lt_of_le h (by decide)
  have hl := sl_le N
  have ge3 : ¬ nI (sl N) < 3 → 3 ≤ sl N := fun c => Nat.le_of_not_lt fun z => c ((nI_ltI (b := 3) (by omega) (by decide)).mpr z)
  have sub : ∀ k, k ≤ 3 → 3 ≤ sl N → nI (sl N) - nI k = nI (sl N - k) := fun k hk h3 => pk_sub (by omega)
  have hdl := sd_lt N (sl N - 1)
  refine Cal.of (by decide) (Nat.le_of_ble_eq_true rfl) (s_Mo_shortEnd_0 (v1 := nI (sl N)) (v14 := bI (sv N (sl N - 3))) (v24 := bI (sv N (sl N - 2))) (v34 := bI (sv N (sl N - 1))) (v46 := nI (sd N (sl N - 1))) (v58 := nI (sd N (sl N - 1))) (c_Mo_length h) (fun c => ⟨?_, rfl, rfl⟩) (fun c => ?_) (fun c a => ⟨?_, rfl, rfl⟩) (fun c a => ?_) (fun c a b => ⟨?_, rfl, rfl⟩) (fun c a b => ?_) (fun c a b d => ?_) (fun c a b d f => ⟨?_, rfl, rfl⟩) (fun c a b d f => ?_) (fun c a b d f g => ⟨?_, rfl, rfl⟩) (fun c a b d f g => ⟨?_, rfl, rfl⟩) (fun c a b d => ⟨?_, rfl, rfl⟩))
  · have : ¬ 3 ≤ sl N := by
      have := (nI_ltI (b := 3) (by omega) (by decide)).mp c
      omega
    simp [st_short, this, bI]
  · rw [show (3 : Int32) = nI 3 from rfl, sub 3 (by omega) (ge3 c)]
    exact c_Mo_isVowel h62 (by omega)
  · simp [st_short, bI_n0 a, bI]
  · have := ge3 c
    rw [show (2 : Int32) = nI 2 from rfl, sub 2 (by omega) (ge3 c)]
    exact c_Mo_isVowel h62 (by omega)
  · simp [st_short, bI_1.mp b, bI]
  · have := ge3 c
    rw [show (1 : Int32) = nI 1 from rfl, sub 1 (by omega) (ge3 c)]
    exact c_Mo_isVowel h62 (by omega)
  · have := ge3 c
    rw [show (1 : Int32) = nI 1 from rfl, sub 1 (by omega) (ge3 c)]
    exact c_Mo_letter h62 (by omega)
  · have g1 : sd N (sl N - 1) < 23 := (nI_ltI (b := 23) (by omega) (by decide)).mp f
    simp [st_short, ge3 c, bI_1.mp a, bI_n0 b, bI_1.mp d, g1, bI]
  · have := ge3 c
    rw [show (1 : Int32) = nI 1 from rfl, sub 1 (by omega) (ge3 c)]
    exact c_Mo_letter h62 (by omega)
  · have g1 : ¬ sd N (sl N - 1) < 23 := fun z => f ((nI_ltI (b := 23) (by omega) (by decide)).mpr z)
    have g2 : ¬ sd N (sl N - 1) = 26 := fun z => g ((nI_eq (b := 26) (by omega) (by decide)).mpr z)
    simp [st_short, g1, g2, bI]
  · have g2 : sd N (sl N - 1) = 26 := (nI_eq (b := 26) (by omega) (by decide)).mp g
    simp [st_short, ge3 c, bI_1.mp a, bI_n0 b, bI_1.mp d, g2, bI]
  · simp [st_short, bI_n0 d, bI]
theorem c_Mo_mended {N : Nat} (h : N < 32 ^ 12) (h1 : 1 ≤ sl N) (h11 : sl N < 12) : Cal l X M_Mo_mended 0 0 [.long (lN N)] n F (ev_pure (.long (lN (st_mend N))) n F) := by
  have h62 : N < 2 ^ 62 := Nat.lt_of_lt_of_le h (by decide)
  have hdl := sd_lt N (sl N - 1)
  have hdl2 := sd_lt N (sl N - 2)
  have sub : ∀ k, k ≤ sl N → nI (sl N) - nI k = nI (sl N - k) := fun k hk => pk_sub hk
  have put : lN N ||| ((5 : Int64) <<< ((5 * nI (sl N)).toInt64 &&& 63)) = lN (N + 5 * 32 ^ sl N) := w_put (c := 5) (sl_lt h) h11 (by decide)
  have w61 : (en N (T4 1 20 0 0) || (en N (T4 2 12 0 0) || en N (T4 9 26 0 0))) = true → Ev l X M_Mo_mended 0 0 61 [(0, .long (lN N)), (2, .int (nI (sl N))), (3, .long (lN N ||| ((5 : Int64) <<< ((5 * nI (sl N)).toInt64 &&& 63))))] [] n F (ev_mq X (ev_pure (.long (lN (st_mend N))) n F)) := by
    intro hA
    refine s_Mo_mended_61 ⟨?_, rfl, rfl⟩
    rw [put]
    simp only [st_mend, hA, if_true]
  have w148 : ∀ b6 : Int32, (en N (T4 1 20 0 0) || (en N (T4 2 12 0 0) || en N (T4 9 26 0 0))) = false → (st_twice N && !st_lsz (sd N (sl N - 1))) = false → Ev l X M_Mo_mended 0 0 148 [(0, .long (lN N)), (2, .int (nI (sl N))), (3, .long (lN N ||| ((5 : Int64) <<< ((5 * nI (sl N)).toInt64 &&& 63)))), (5, .int (nI (sd N (sl N - 1)))), (6, .int b6)] [] n F (ev_mq X (ev_pure (.long (lN (st_mend N))) n F)) := by
    intro b6 hA hB
    have hm := smc_le N (sl N - 1)
    have hme : sm N (sl N) < 2 ^ 31 := by
      show smc N (sl N - 1) < 2 ^ 31
      omega
    refine s_Mo_mended_148 (v150 := nI (sm N (sl N))) (v158 := bI (st_short N)) (c_Mo_measure h62 (by omega)) (fun c => ⟨?_, rfl, rfl⟩) (fun _ => c_Mo_shortEnd h) (fun c d => ⟨?_, rfl, rfl⟩) (fun c d => ⟨?_, rfl, rfl⟩)
    · have : ¬ sm N (sl N) = 1 := fun z => c ((nI_eq (b := 1) hme (by decide)).mpr z)
      simp [st_mend, hA, hB, this]
    · simp [st_mend, hA, hB, bI_1.mp d]
    · have : sm N (sl N) = 1 := (nI_eq (b := 1) hme (by decide)).mp c
      rw [put]
      simp [st_mend, hA, hB, this, bI_n0 d]
  have w114 : ∀ tw : Bool, tw = st_twice N → (en N (T4 1 20 0 0) || (en N (T4 2 12 0 0) || en N (T4 9 26 0 0))) = false → Ev l X M_Mo_mended 0 0 114 [(0, .long (lN N)), (2, .int (nI (sl N))), (3, .long (lN N ||| ((5 : Int64) <<< ((5 * nI (sl N)).toInt64 &&& 63)))), (5, .int (nI (sd N (sl N - 1))))] [.int (bI tw)] n F (ev_mq X (ev_pure (.long (lN (st_mend N))) n F)) := by
    intro tw htw hA
    have e1 : ∀ c : Nat, c < 2 ^ 31 → (nI (sd N (sl N - 1)) = nI c ↔ sd N (sl N - 1) = c) := fun c hc => nI_eq (by omega) hc
    refine s_Mo_mended_114 (v144 := lN (N % 32 ^ (sl N - 1))) (fun c => w148 _ hA ?_) (fun _ c => w148 _ hA ?_) (fun _ _ c => w148 _ hA ?_) (fun _ _ _ c => w148 _ hA ?_) (fun _ _ _ _ => c_Mo_without (k := 1) h h1) (fun a b c d => ⟨?_, rfl, rfl⟩)
    · rw [← htw, bI_1.mp c]; rfl
    · have := (e1 12 (by decide)).mp c
      simp [this, st_lsz]
    · have := (e1 19 (by decide)).mp c
      simp [this, st_lsz]
    · have := (e1 26 (by decide)).mp c
      simp [this, st_lsz]
    · have b1 : ¬ sd N (sl N - 1) = 12 := fun z => b ((e1 12 (by decide)).mpr z)
      have b2 : ¬ sd N (sl N - 1) = 19 := fun z => c ((e1 19 (by decide)).mpr z)
      have b3 : ¬ sd N (sl N - 1) = 26 := fun z => d ((e1 26 (by decide)).mpr z)
      have b4 : st_twice N = true := by rw [← htw]; exact bI_n0 a
      simp [st_mend, hA, b4, st_lsz, b1, b2, b3]
  have gt1 : ¬ nI (sl N) ≤ 1 → 2 ≤ sl N := fun c => Nat.le_of_not_lt fun z => c ((nI_leI (b := 1) (by omega) (by decide)).mpr (by omega))
  have eqd : nI (sd N (sl N - 1)) = nI (sd N (sl N - 2)) ↔ sd N (sl N - 1) = sd N (sl N - 2) := nI_eq (by omega) (by omega)
  have s1 : nI (sl N) - 1 = nI (sl N - 1) := sub 1 h1
  have s2 : 2 ≤ sl N → nI (sl N) - 2 = nI (sl N - 2) := fun z => sub 2 z
  refine Cal.of (by decide) (Nat.le_of_ble_eq_true rfl) (s_Mo_mended_0 (v1 := nI (sl N)) (v21 := lN (T4 1 20 0 0)) (v24 := bI (en N (T4 1 20 0 0))) (v36 := lN (T4 2 12 0 0)) (v39 := bI (en N (T4 2 12 0 0))) (v52 := lN (T4 9 26 0 0)) (v55 := bI (en N (T4 9 26 0 0))) (v67 := nI (sd N (sl N - 1))) (v83 := nI (sd N (sl N - 2))) (v93 := bI (sv N (sl N - 1))) (v103 := bI (sv N (sl N - 2)))
    (c_Mo_length h) (c_Mo_text (by decide +kernel)) (c_Mo_ends h (by decide +kernel)) (fun a => w61 ?_) (fun _ => c_Mo_text (by decide +kernel)) (fun _ => c_Mo_ends h (by decide +kernel)) (fun a b => w61 ?_) (fun _ _ => c_Mo_text (by decide +kernel)) (fun _ _ => c_Mo_ends h (by decide +kernel)) (fun _ _ _ => ?_) (fun a b c d => s_Mo_mended_113 (w114 false ?_ ?_)) (fun _ _ _ d => ?_) (fun a b c d f => s_Mo_mended_113 (w114 false ?_ ?_)) (fun _ _ _ d f => ?_) (fun a b c d f g => s_Mo_mended_113 (w114 false ?_ ?_)) (fun _ _ _ d f g => ?_) (fun a b c d f g k => s_Mo_mended_113 (w114 false ?_ ?_)) (fun a b c d f g k => w114 true ?_ ?_) (fun a b c => w61 ?_))
  · simp [bI_n0 a]
  · simp [bI_n0 b]
  · rw [s1]; exact c_Mo_letter h62 (by omega)
  · have : ¬ 1 < sl N := by
      have := (nI_leI (b := 1) (by omega) (by decide)).mp d
      omega
    simp [st_twice, this]
  · simp [bI_1.mp a, bI_1.mp b, bI_1.mp c]
  · rw [s2 (gt1 d)]; exact c_Mo_letter h62 (by omega)
  · have : ¬ sd N (sl N - 1) = sd N (sl N - 2) := fun z => f (eqd.mpr z)
    simp [st_twice, this]
  · simp [bI_1.mp a, bI_1.mp b, bI_1.mp c]
  · rw [s1]; exact c_Mo_isVowel h62 (by omega)
  · simp [st_twice, bI_n0 g]
  · simp [bI_1.mp a, bI_1.mp b, bI_1.mp c]
  · rw [s2 (gt1 d)]; exact c_Mo_isVowel h62 (by omega)
  · simp [st_twice, bI_n0 k]
  · simp [bI_1.mp a, bI_1.mp b, bI_1.mp c]
  · have h2 := gt1 d
    have h3 := eqd.mp f
    simp [st_twice, h3, bI_1.mp k, show 1 < sl N by omega]
    rw [bI_1.mp g]
  · simp [bI_1.mp a, bI_1.mp b, bI_1.mp c]
  · simp [bI_n0 c]
end MoWords
