/-! the reference's stems and words: contracts, the rest -/
/-- the stop words: a, an, and, in, of, or, the, to -/
def st_stop (N : Nat) : Bool := N == 1 || (N == 449 || (N == 457 || (N == 207 || (N == 591 || (N == 500 || (N == 4545 || N == 5396))))))
/-- the term of a word -/
def st_term (N : Nat) : Nat := if st_stop N then 0 else st_stem N
theorem lc_eq {a b : Nat} (ha : a < 2 ^ 63) (hb : b < 2 ^ 63) : lg_cmp (lN a) (lN b) = 0 ↔ a = b := by
  rw [lg_cmp_eq]
  exact pk_lEQ ha hb
theorem w_60 {N : Nat} (h : N < 2 ^ 62) : lN N >>> ((60 : Int32).toInt64 &&& 63) = lN (N / 32 ^ 12) := w_shr (i := 12) h (by decide)
section MoWords
variable {l : Launch} {X : ev_X} {n : Nat} {F : ev_H}
theorem c_Mo_past {N : Nat} (hg : gd N) : Cal l X M_Mo_past 0 0 [.long (lN N)] n F (ev_pure (.long (lN (st_past N))) n F) := by
  have h := hg.2.1
  have h62 : N < 2 ^ 62 := Nat.lt_of_lt_of_le h (by decide)
  have hl := sl_le N
  have e3 : sl (T4 5 5 4 0) = 3 := by decide +kernel
  have e2 : sl (T4 5 4 0 0) = 2 := by decide +kernel
  have e3' : sl (T4 9 14 7 0) = 3 := by decide +kernel
  have sub3 : 3 ≤ sl N → nI (sl N) - 3 = nI (sl N - 3) := fun z => pk_sub (b := 3) z
  have sub2 : 2 ≤ sl N → nI (sl N) - 2 = nI (sl N - 2) := fun z => pk_sub (b := 2) z
  have g3 : ∀ {b : Bool}, b = en N (T4 5 5 4 0) → ¬ bI b = 0 → 3 ≤ sl N := fun hb z => by
    have := en_le (hb ▸ bI_n0 z)
    omega
  have gi : ¬ bI (en N (T4 9 14 7 0)) = 0 → 3 ≤ sl N := fun z => by
    have := en_le (bI_n0 z)
    omega
  have ge : ¬ bI (en N (T4 5 4 0 0)) = 0 → 2 ≤ sl N := fun z => by
    have := en_le (bI_n0 z)
    omega
  have cut : ∀ k, ¬ bI (sh N (sl N - k)) = 0 → k ≤ sl N → (N % 32 ^ (sl N - k)) < 32 ^ 12 ∧ 1 ≤ sl (N % 32 ^ (sl N - k)) ∧ (0 < k → sl (N % 32 ^ (sl N - k)) < 12) := fun k z hk => by
    have h0 := sh_0 (bI_n0 z)
    obtain ⟨a, b⟩ := gd_cut hg (k := sl N - k) (by omega) (by omega)
    exact ⟨a.2.1, by omega, fun _ => by omega⟩
  have hme : sm N (sl N - 3) < 2 ^ 31 := by
    show smc N (sl N - 3 - 1) < 2 ^ 31
    have := smc_le N (sl N - 3 - 1)
    omega
  refine Cal.of (by decide) (Nat.le_of_ble_eq_true rfl) (s_Mo_past_0 (v1 := nI (sl N)) (v10 := lN (T4 5 5 4 0)) (v13 := bI (en N (T4 5 5 4 0))) (v44 := lN (T4 5 4 0 0)) (v47 := bI (en N (T4 5 4 0 0))) (v82 := lN (T4 9 14 7 0)) (v85 := bI (en N (T4 9 14 7 0))) (v95 := bI (sh N (sl N - 3))) (v105 := lN (N % 32 ^ (sl N - 3))) (v108 := lN (st_mend (N % 32 ^ (sl N - 3)))) (v57 := bI (sh N (sl N - 2))) (v82_2 := lN (T4 9 14 7 0)) (v85_2 := bI (en N (T4 9 14 7 0))) (v95_2 := bI (sh N (sl N - 3))) (v105_2 := lN (N % 32 ^ (sl N - 3))) (v108_2 := lN (st_mend (N % 32 ^ (sl N - 3)))) (v67 := lN (N % 32 ^ (sl N - 2))) (v70 := lN (st_mend (N % 32 ^ (sl N - 2)))) (v23 := nI (sm N (sl N - 3))) (v31 := lN (N % 32 ^ (sl N - 1)))
    (c_Mo_length h) (c_Mo_text (by decide +kernel)) (c_Mo_ends h (by decide +kernel)) (fun _ => c_Mo_text (by decide +kernel)) (fun _ => c_Mo_ends h (by decide +kernel)) (fun _ _ => c_Mo_text (by decide +kernel)) (fun _ _ => c_Mo_ends h (by decide +kernel))
    (fun a b c => ⟨?_, rfl, rfl⟩) (fun _ _ c => ?_) (fun a b c d => ⟨?_, rfl, rfl⟩) (fun _ _ c d => ?_) (fun _ _ c d => ?_) (fun a b c d => ⟨?_, rfl, rfl⟩) (fun _ b => ?_)
    (fun _ _ _ => c_Mo_text (by decide +kernel)) (fun _ _ _ => c_Mo_ends h (by decide +kernel)) (fun a b c d => ⟨?_, rfl, rfl⟩) (fun _ _ _ d => ?_) (fun a b c d f => ⟨?_, rfl, rfl⟩) (fun _ _ _ d f => ?_) (fun _ _ _ d f => ?_) (fun a b c d f => ⟨?_, rfl, rfl⟩)
    (fun _ b c => ?_) (fun _ b c => ?_) (fun a b c => ⟨?_, rfl, rfl⟩) (fun a => ?_) (fun a b => ⟨?_, rfl, rfl⟩) (fun a b => ?_) (fun a b => ⟨?_, rfl, rfl⟩))
  · simp [st_past, bI_1.mp a, bI_1.mp b, bI_1.mp c]
  · rw [sub3 (gi c)]; exact c_Mo_someVowel h62 (by omega)
  · simp [st_past, bI_1.mp a, bI_1.mp b, bI_n0 c, bI_1.mp d]
  · rw [sub3 (gi c)]; exact c_Mo_first h62 (by omega)
  · obtain ⟨p1, p2, p3⟩ := cut 3 d (gi c)
    exact c_Mo_mended p1 p2 (p3 (by decide))
  · simp [st_past, bI_1.mp a, bI_1.mp b, bI_n0 c, bI_n0 d]
  · rw [sub2 (ge b)]; exact c_Mo_someVowel h62 (by omega)
  · simp [st_past, bI_1.mp a, bI_1.mp c, bI_1.mp d]
  · rw [sub3 (gi d)]; exact c_Mo_someVowel h62 (by omega)
  · simp [st_past, bI_1.mp a, bI_1.mp c, bI_n0 d, bI_1.mp f]
  · rw [sub3 (gi d)]; exact c_Mo_first h62 (by omega)
  · obtain ⟨p1, p2, p3⟩ := cut 3 f (gi d)
    exact c_Mo_mended p1 p2 (p3 (by decide))
  · simp [st_past, bI_1.mp a, bI_1.mp c, bI_n0 d, bI_n0 f]
  · rw [sub2 (ge b)]; exact c_Mo_first h62 (by omega)
  · obtain ⟨p1, p2, p3⟩ := cut 2 c (ge b)
    exact c_Mo_mended p1 p2 (p3 (by decide))
  · simp [st_past, bI_1.mp a, bI_n0 b, bI_n0 c]
  · rw [sub3 (g3 rfl a)]; exact c_Mo_measure h62 (by omega)
  · have : ¬ 0 < sm N (sl N - 3) := by
      have := (nI_leI (b := 0) hme (by decide)).mp b
      omega
    simp [st_past, bI_n0 a, this]
  · have := g3 rfl a
    exact c_Mo_without (k := 1) h (by omega)
  · have : 0 < sm N (sl N - 3) := Nat.pos_of_ne_zero fun z => b ((nI_leI (b := 0) hme (by decide)).mpr (by omega))
    simp [st_past, bI_n0 a, this]
theorem c_Mo_stemOf {N : Nat} (hg : gd N) : Cal l X M_Mo_stemOf 0 0 [.long (lN N)] n F (ev_pure (.long (lN (st_stem N))) n F) := by
  have hl := sl_le N
  have ge3 : (3 : Int32) ≤ nI (sl N) → 3 ≤ sl N := fun c => (nI_leI (a := 3) (by decide) (by omega)).mp c
  have gp : 3 ≤ sl N → gd (st_past (st_plural N)) := fun z => gd_past (gd_plural hg z)
  have hW : ∀ W, W = st_past (st_plural N) → True := fun _ _ => trivial
  have hd := sd_lt (st_past (st_plural N)) (sl (st_past (st_plural N)) - 1)
  have hlw := sl_le (st_past (st_plural N))
  have e25 : nI (sd (st_past (st_plural N)) (sl (st_past (st_plural N)) - 1)) = 25 ↔ sd (st_past (st_plural N)) (sl (st_past (st_plural N)) - 1) = 25 := nI_eq (b := 25) (by omega) (by decide)
  have sub1 : 3 ≤ sl N → nI (sl (st_past (st_plural N))) - 1 = nI (sl (st_past (st_plural N)) - 1) := fun z => pk_sub (b := 1) (gd_pos (gp z))
  have lt62 : 3 ≤ sl N → st_past (st_plural N) < 2 ^ 62 := fun z => Nat.lt_of_lt_of_le (gp z).2.1 (by decide)
  have hs : 3 ≤ sl N → st_stem N = st_fin (st_past (st_plural N)) := fun z => by
    unfold st_stem
    rw [if_neg (by omega)]
  refine Cal.of (by decide) (Nat.le_of_ble_eq_true rfl) (s_Mo_stemOf_0 (v1 := nI (sl N)) (v11 := lN (st_plural N)) (v14 := lN (st_past (st_plural N))) (v19 := nI (sl (st_past (st_plural N)))) (v29 := nI (sd (st_past (st_plural N)) (sl (st_past (st_plural N)) - 1))) (v42 := bI (sh (st_past (st_plural N)) (sl (st_past (st_plural N)) - 1))) (v65 := lN (st_past (st_plural N) % 32 ^ (sl (st_past (st_plural N)) - 1)))
    (c_Mo_length hg.2.1) (fun _ => c_Mo_plural hg.2.1) (fun c => c_Mo_past (gd_plural hg (ge3 c))) (fun c => c_Mo_length (gp (ge3 c)).2.1) (fun c => ?_) (fun c d => ⟨?_, rfl, rfl⟩) (fun c _ => ?_) (fun c d f => ⟨?_, rfl, rfl⟩) (fun c _ _ => ?_) (fun c d f => ⟨?_, rfl, rfl⟩) (fun c => ⟨?_, rfl, rfl⟩))
  · rw [sub1 (ge3 c)]; exact c_Mo_letter (lt62 (ge3 c)) (by omega)
  · have : ¬ sd (st_past (st_plural N)) (sl (st_past (st_plural N)) - 1) = 25 := fun z => d (e25.mpr z)
    rw [hs (ge3 c)]
    simp [st_fin, this]
  · rw [sub1 (ge3 c)]; exact c_Mo_someVowel (lt62 (ge3 c)) (by omega)
  · rw [hs (ge3 c)]
    simp [st_fin, bI_1.mp f]
  · rw [sub1 (ge3 c)]; exact c_Mo_first (lt62 (ge3 c)) (by omega)
  · have h25 := e25.mp d
    have hp := gd_pos (gp (ge3 c))
    rw [sub1 (ge3 c), show (9 : Int64) = lN 9 from rfl, w_put (Nat.mod_lt _ (pow32_pos _)) (by omega) (by decide), hs (ge3 c)]
    simp [st_fin, h25, bI_n0 f]
  · have : sl N < 3 := Nat.lt_of_not_le fun z => c ((nI_leI (a := 3) (by decide) (by omega)).mpr z)
    unfold st_stem
    rw [if_pos this]
theorem c_Mo_isStop {N : Nat} (h : N < 32 ^ 12) : Cal l X M_Mo_isStop 0 0 [.long (lN N)] n F (ev_pure (.int (bI (st_stop N))) n F) := by
  have h63 : N < 2 ^ 63 := Nat.lt_of_lt_of_le h (by decide)
  have k : ∀ c, c < 2 ^ 63 → (lg_cmp (lN N) (lN c) = 0 ↔ N = c) := fun c hc => lc_eq h63 hc
  have w117 : ∀ (b : Int32) (r : Bool), r = st_stop N → Ev l X M_Mo_isStop 0 0 117 [(0, .long (lN N)), (2, .int b)] [.int (bI r)] n F (ev_mq X (ev_pure (.int (bI (st_stop N))) n F)) := fun b r hr => s_Mo_isStop_117 (by rw [hr]; exact ⟨rfl, rfl, rfl⟩) (bI_nar _)
  have w74 : ∀ r : Bool, r = (N == 449 || (N == 457 || (N == 207 || (N == 591 || N == 500)))) → Ev l X M_Mo_isStop 0 0 74 [(0, .long (lN N))] [.int (bI r)] n F (ev_mq X (ev_pure (.int (bI (st_stop N))) n F)) := by
    intro r hr
    refine s_Mo_isStop_74 (v91 := lN 4545) (v105 := lN 5396) (fun a => s_Mo_isStop_112 (w117 _ true ?_)) (fun a b => s_Mo_isStop_112 (w117 _ true ?_)) (fun _ _ => c_Mo_text (by decide +kernel)) (fun a b c => s_Mo_isStop_112 (w117 _ true ?_)) (fun _ _ _ => c_Mo_text (by decide +kernel)) (fun a b c d => w117 _ false ?_) (fun a b c d => s_Mo_isStop_112 (w117 _ true ?_))
    · have := (k 1 (by decide)).mp a
      subst this; rfl
    · have := bI_n0 b
      rw [hr] at this
      unfold st_stop
      simp only [Bool.or_eq_true, beq_iff_eq] at this ⊢
      symm
      simp only [Bool.or_eq_true, beq_iff_eq]
      omega
    · have := (k 4545 (by decide)).mp c
      subst this; rfl
    · have a1 : ¬ N = 1 := fun z => a ((k 1 (by decide)).mpr z)
      have a2 : ¬ N = 4545 := fun z => c ((k 4545 (by decide)).mpr z)
      have a3 : ¬ N = 5396 := fun z => d ((k 5396 (by decide)).mpr z)
      have a4 := bI_1.mp b
      rw [hr] at a4
      simp only [Bool.or_eq_false_iff, beq_eq_false_iff_ne] at a4
      simp [st_stop, a1, a2, a3, a4.1, a4.2.1, a4.2.2.1, a4.2.2.2.1, a4.2.2.2.2]
    · have := (k 5396 (by decide)).mp d
      subst this; rfl
  refine Cal.of (by decide) (Nat.le_of_ble_eq_true rfl) (s_Mo_isStop_0 (v6 := lN 449) (v20 := lN 457) (v34 := lN 207) (v48 := lN 591) (v62 := lN 500) (c_Mo_text (by decide +kernel)) (fun a => s_Mo_isStop_69 (w74 true ?_)) (fun _ => c_Mo_text (by decide +kernel)) (fun _ a => s_Mo_isStop_69 (w74 true ?_)) (fun _ _ => c_Mo_text (by decide +kernel)) (fun _ _ a => s_Mo_isStop_69 (w74 true ?_)) (fun _ _ _ => c_Mo_text (by decide +kernel)) (fun _ _ _ a => s_Mo_isStop_69 (w74 true ?_)) (fun _ _ _ _ => c_Mo_text (by decide +kernel)) (fun a b c d f => w74 false ?_) (fun _ _ _ _ a => s_Mo_isStop_69 (w74 true ?_)))
  · have := (k 449 (by decide)).mp a
    subst this; rfl
  · have := (k 457 (by decide)).mp a
    subst this; rfl
  · have := (k 207 (by decide)).mp a
    subst this; rfl
  · have := (k 591 (by decide)).mp a
    subst this; rfl
  · have a1 : ¬ N = 449 := fun z => a ((k 449 (by decide)).mpr z)
    have a2 : ¬ N = 457 := fun z => b ((k 457 (by decide)).mpr z)
    have a3 : ¬ N = 207 := fun z => c ((k 207 (by decide)).mpr z)
    have a4 : ¬ N = 591 := fun z => d ((k 591 (by decide)).mpr z)
    have a5 : ¬ N = 500 := fun z => f ((k 500 (by decide)).mpr z)
    simp [a1, a2, a3, a4, a5]
  · have := (k 500 (by decide)).mp a
    subst this; rfl
theorem c_Mo_termOf {N : Nat} (hg : gd N) : Cal l X M_Mo_termOf 0 0 [.long (lN N)] n F (ev_pure (.long (lN (st_term N))) n F) := by
  refine Cal.of (by decide) (Nat.le_of_ble_eq_true rfl) (s_Mo_termOf_0 (v1 := bI (st_stop N)) (v12 := lN (st_stem N)) (c_Mo_isStop hg.2.1) (fun _ => c_Mo_stemOf hg) (fun a => ⟨?_, rfl, rfl⟩) (fun a => ⟨?_, rfl, rfl⟩))
  · simp [st_term, bI_1.mp a]
  · simp [st_term, bI_n0 a]
    rfl
end MoWords
