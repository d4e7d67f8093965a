/-! the class's stemmer: the steps of stemming, stemOf and termOf -/
theorem en_last {N E : Nat} (hN : N < 32 ^ 12) (hE : E < 32 ^ 12) (h0 : 0 < sl E) (h : en N E = true) : sd N (sl N - 1) = sd E (sl E - 1) := by
  have hle := en_le h
  have := (en_iff hN hE hle).mp h (sl E - 1) (by omega)
  rw [show sl N - sl E + (sl E - 1) = sl N - 1 by omega] at this
  exact this
theorem en_y {N : Nat} (hN : N < 32 ^ 12) (h0 : 0 < sl N) : en N 25 = (sd N (sl N - 1) == 25) := by
  have e1 : sl 25 = 1 := by decide +kernel
  have hi := en_iff hN (E := 25) (by decide) (by omega)
  rw [e1] at hi
  cases hx : en N 25 with
  | true =>
    have := hi.mp hx 0 (by omega)
    simp at this
    rw [this]
    decide +kernel
  | false =>
    cases hy : sd N (sl N - 1) == 25 with
    | false => rfl
    | true =>
      exfalso
      have : en N 25 = true := hi.mpr fun j hj => by
        have : j = 0 := by omega
        subst this
        rw [show sl N - 1 + 0 = sl N - 1 from rfl, eq_of_beq hy]
        decide +kernel
      rw [hx] at this
      exact absurd this (by decide)
section ConSt4
variable {l : Launch} {X : ev_X} {n : Nat} {F : ev_H} {r N : Nat} {lf vf : Nat → Int32}
theorem stQ_r (h : stI F r N lf vf) : stQ n F r N none n F := ⟨rfl, rfl, ⟨lf, vf, h⟩, ag_r _ _ _⟩
theorem c_St_dropPlural (h : stI F r N lf vf) (hg : gw N) (h3 : 3 ≤ sl N) : Cal l X M_St_dropPlural 0 0 [.ref r] n F (stQ n F r (st_plural N)) := by
  have hl := sl_le N
  have hN := hg.2.1
  have s1 : nI (sl N) - 1 = nI (sl N - 1) := pk_sub (b := 1) (by omega)
  have s2 : nI (sl N) - 2 = nI (sl N - 2) := pk_sub (b := 2) (by omega)
  have two : st_plural N = N % 32 ^ (sl N - 2) → stQ n F r (st_plural N) none n (ev_up F r (.inr (1, [.ref (r + 1), .ref (r + 2), .int (nI (sl N) - 2)]))) := fun e => by
    rw [e]; exact stQ_cut h hg (by omega) (by omega) s2
  have one : st_plural N = N % 32 ^ (sl N - 1) → stQ n F r (st_plural N) none n (ev_up F r (.inr (1, [.ref (r + 1), .ref (r + 2), .int (nI (sl N) - 1)]))) := fun e => by
    rw [e]; exact stQ_cut h hg (by omega) (by omega) s1
  have non : st_plural N = N → stQ n F r (st_plural N) none n F := fun e => by rw [e]; exact stQ_r h
  refine Cal.of (by decide) (Nat.le_of_ble_eq_true rfl) (s_St_dropPlural_0 h.1 (c_St_endsIn h hN isE_1) (fun a => two ?_) (fun _ => c_St_endsIn h hN isE_2) (fun _ _ => c_St_endsIn h hN isE_3) (fun a b c => non ?_) (fun _ _ _ => c_St_endsIn h hN isE_4) (fun a b c d => non ?_) (fun a b c d => one ?_) (fun a b => two ?_))
  · simp [st_plural, bI_n0 a]
  · simp [st_plural, bI_1.mp a, bI_1.mp b, bI_1.mp c]
  · simp [st_plural, bI_1.mp a, bI_1.mp b, bI_n0 d]
  · simp [st_plural, bI_1.mp a, bI_1.mp b, bI_n0 c, bI_1.mp d]
  · simp [st_plural, bI_1.mp a, bI_n0 b]
theorem c_St_mendEnd (h : stI F r N lf vf) (hg : gw N) (hl : sl N < 12) : Cal l X M_St_mendEnd 0 0 [.ref r] n F (stQ n F r (st_mend N)) := by
  have hN := hg.2.1
  have h0 := gd_pos hg.gd
  have app : Cal l X M_St_append 0 0 [.ref r, .int 101] n F (stQ n F r (N + 5 * 32 ^ sl N)) := c_St_append (c := 5) h hN hl (by decide) (by decide)
  have k33 : st_mend N = N + 5 * 32 ^ sl N → ∀ v2 n2 F2, stQ n F r (N + 5 * 32 ^ sl N) v2 n2 F2 → Ev l X M_St_mendEnd 0 0 33 [(0, .ref r)] (v2.toList ++ []) n2 F2 (ev_mq X (stQ n F r (st_mend N))) := fun e v2 n2 F2 hq => by
    have hv := hq.1
    subst hv
    exact s_St_mendEnd_33 (by rw [e]; exact ⟨rfl, hq.2⟩)
  have k81 : st_mend N = N + 5 * 32 ^ sl N → ∀ v2 n2 F2, stQ n F r (N + 5 * 32 ^ sl N) v2 n2 F2 → Ev l X M_St_mendEnd 0 0 81 [(0, .ref r)] (v2.toList ++ []) n2 F2 (ev_mq X (stQ n F r (st_mend N))) := fun e v2 n2 F2 hq => by
    have hv := hq.1
    subst hv
    exact s_St_mendEnd_81 (by rw [e]; exact ⟨rfl, hq.2⟩)
  have non : st_mend N = N → stQ n F r (st_mend N) none n F := fun e => by rw [e]; exact stQ_r h
  have sm1 : sm N (sl N) < 2 ^ 31 := by
    show smc N (sl N - 1) < 2 ^ 31
    have := smc_le N (sl N - 1)
    omega
  refine Cal.of (by decide) (Nat.le_of_ble_eq_true rfl) (s_St_mendEnd_0 h.1 (Nat.le_refl 0) (Nat.le_refl 0) (Nat.le_refl 0) (Nat.le_refl 0) (Nat.le_refl 0) (Nat.le_refl 0) (Nat.le_refl 0) (Nat.le_refl 0)
    (c_St_endsIn h hN isE_8) (fun _ => app) (fun a => k33 ?_) (fun _ => c_St_endsIn h hN isE_9) (fun _ _ => app) (fun a b => k33 ?_) (fun _ _ => c_St_endsIn h hN isE_10)
    (fun _ _ _ => c_St_endsInDouble h) (fun _ _ _ _ => c_St_measure h (Nat.le_refl _)) (fun a b c d e => non ?_) (fun _ _ _ _ _ => c_St_endsShort h hg) (fun a b c d e f => non ?_) (fun _ _ _ _ _ _ => app) (fun a b c d e f => k81 ?_) (fun a b c d => ?_) (fun _ _ _ => app) (fun a b c => k33 ?_))
  · simp [st_mend, bI_n0 a]
  · simp [st_mend, bI_n0 b]
  · have e' : ¬ sm N (sl N) = 1 := fun z => e (by rw [z]; rfl)
    unfold st_mend
    rw [bI_1.mp a, bI_1.mp b, bI_1.mp c, bI_1.mp d]
    simp [e']
  · unfold st_mend
    rw [bI_1.mp a, bI_1.mp b, bI_1.mp c, bI_1.mp d, bI_1.mp f]
    simp
  · have e' : sm N (sl N) = 1 := (nI_eq (b := 1) sm1 (by decide)).mp e
    unfold st_mend
    rw [bI_1.mp a, bI_1.mp b, bI_1.mp c, bI_1.mp d, bI_n0 f, e']
    simp
  · have e1 : st_mend N = N % 32 ^ (sl N - 1) := by
      unfold st_mend
      rw [bI_1.mp a, bI_1.mp b, bI_1.mp c, bI_n0 d]
      simp
    have h2 : 1 < sl N := by
      have := bI_n0 d
      simp only [st_twice, Bool.and_eq_true, decide_eq_true_eq] at this
      exact this.1.1
    rw [e1]
    exact stQ_cut h hg (by omega) (by omega) (pk_sub (b := 1) (by omega))
  · simp [st_mend, bI_n0 c]
theorem stQ_t {G : ev_H} {K : Nat} {v : Option Value} {n' : Nat} {F' : ev_H} (hA : ag F G r (r + 3)) (hq : stQ n G r K v n' F') : stQ n F r K v n' F' := ⟨hq.1, hq.2.1, hq.2.2.1, ag_t hA hq.2.2.2⟩
theorem c_St_dropPast (h : stI F r N lf vf) (hg : gw N) : Cal l X M_St_dropPastOrGerund 0 0 [.ref r] n F (stQ n F r (st_past N)) := by
  have hN := hg.2.1
  have hl := sl_le N
  have e3 : sl (T4 5 5 4 0) = 3 := by decide +kernel
  have e2 : sl (T4 5 4 0 0) = 2 := by decide +kernel
  have e3' : sl (T4 9 14 7 0) = 3 := by decide +kernel
  have sub3 : 3 ≤ sl N → nI (sl N) - 3 = nI (sl N - 3) := fun z => pk_sub (b := 3) z
  have sub2 : 2 ≤ sl N → nI (sl N) - 2 = nI (sl N - 2) := fun z => pk_sub (b := 2) z
  have g3 : ¬ bI (en N (T4 5 5 4 0)) = 0 → 3 ≤ sl N := fun z => by
    have := en_le (bI_n0 z)
    omega
  have gi : ¬ bI (en N (T4 9 14 7 0)) = 0 → 3 ≤ sl N := fun z => by
    have := en_le (bI_n0 z)
    omega
  have ge : ¬ bI (en N (T4 5 4 0 0)) = 0 → 2 ≤ sl N := fun z => by
    have := en_le (bI_n0 z)
    omega
  have no : ¬ bI (en N (T4 5 4 0 0)) = 0 → en N (T4 9 14 7 0) = false := fun z => by
    cases hx : en N (T4 9 14 7 0) with
    | false => rfl
    | true =>
      have a := en_last hN (by decide) (by omega) hx
      have b := en_last hN (by decide) (by omega) (bI_n0 z)
      rw [e3'] at a
      rw [e2] at b
      have c : sd (T4 9 14 7 0) (3 - 1) ≠ sd (T4 5 4 0 0) (2 - 1) := by decide +kernel
      exact absurd (a.symm.trans b) c
  have hme : sm N (sl N - 3) < 2 ^ 31 := by
    show smc N (sl N - 3 - 1) < 2 ^ 31
    have := smc_le N (sl N - 3 - 1)
    omega
  have non : st_past N = N → stQ n F r (st_past N) none n F := fun e => by rw [e]; exact stQ_r h
  have mend : ∀ k, 1 ≤ k → k ≤ sl N → ¬ bI (sh N (sl N - k)) = 0 → Cal l X M_St_mendEnd 0 0 [.ref r] n (ev_up F r (.inr (1, [.ref (r + 1), .ref (r + 2), .int (nI (sl N - k))]))) (stQ n (ev_up F r (.inr (1, [.ref (r + 1), .ref (r + 2), .int (nI (sl N - k))]))) r (st_mend (N % 32 ^ (sl N - k)))) := fun k h1 hk z => by
    have h0 := sh_0 (bI_n0 z)
    obtain ⟨a, b⟩ := gw_cut hg (k := sl N - k) (by omega) (by omega)
    exact c_St_mendEnd (stI_cut h hN b (by omega)) a (by omega)
  have kk : ∀ k (c : Int32), st_past N = st_mend (N % 32 ^ (sl N - k)) → ∀ v2 n2 F2, stQ n (ev_up F r (.inr (1, [.ref (r + 1), .ref (r + 2), .int (nI (sl N - k))]))) r (st_mend (N % 32 ^ (sl N - k))) v2 n2 F2 → Ev l X M_St_dropPastOrGerund 0 0 92 [(0, .ref r), (1, .int c)] (v2.toList ++ []) n2 F2 (ev_mq X (stQ n F r (st_past N))) := fun k c e v2 n2 F2 hq => by
    have hv := hq.1
    subst hv
    exact s_St_dropPastOrGerund_92 (by rw [e]; exact stQ_t (ag_u (ag_r _ _ _) (by omega) (by omega)) hq)
  refine Cal.of (by decide) (Nat.le_of_ble_eq_true rfl) (s_St_dropPastOrGerund_0 (bc89 := 0) (bs89 := 0) (rc89 := 0) (rs89 := 0) (bc89_2 := 0) (bs89_2 := 0) (rc89_2 := 0) (rs89_2 := 0) (v72 := bI (sh N (sl N - 3))) (v72_2 := bI (sh N (sl N - 2))) (v16 := nI (sm N (sl N - 3))) (Q89 := stQ n (ev_up F r (.inr (1, [.ref (r + 1), .ref (r + 2), .int (nI (sl N - 3))]))) r (st_mend (N % 32 ^ (sl N - 3)))) (Q89_2 := stQ n (ev_up F r (.inr (1, [.ref (r + 1), .ref (r + 2), .int (nI (sl N - 2))]))) r (st_mend (N % 32 ^ (sl N - 2)))) h.1 (Nat.le_refl 0) (Nat.le_refl 0) (Nat.le_refl 0) (Nat.le_refl 0)
    (c_St_endsIn h hN isE_5) (fun _ => c_St_endsIn h hN isE_6) (fun _ _ => c_St_endsIn h hN isE_7) (fun a b c => non ?_) (fun _ _ c => ?_) (fun a b c d => non ?_) (fun _ _ c d => ?_) (fun a b c d => kk 3 _ ?_)
    (fun _ b => ?_) (fun a b c => non ?_) (fun _ b c => ?_) (fun a b c => kk 2 _ ?_) (fun a => ?_) (fun a b => non ?_) (fun a b => ?_))
  · simp [st_past, bI_1.mp a, bI_1.mp b, bI_1.mp c]
  · rw [sub3 (gi c)]
    exact c_St_hasVowel h (by omega)
  · simp [st_past, bI_1.mp a, bI_1.mp b, bI_1.mp d]
  · rw [sub3 (gi c)]
    exact mend 3 (by omega) (gi c) d
  · simp [st_past, bI_1.mp a, bI_1.mp b, bI_n0 c, bI_n0 d]
  · rw [sub2 (ge b)]
    exact c_St_hasVowel h (by omega)
  · simp [st_past, bI_1.mp a, no b, bI_1.mp c]
  · rw [sub2 (ge b)]
    exact mend 2 (by omega) (ge b) c
  · simp [st_past, bI_1.mp a, bI_n0 b, bI_n0 c]
  · rw [sub3 (g3 a)]
    exact c_St_measure h (by omega)
  · have : ¬ 0 < sm N (sl N - 3) := by
      have := (nI_leI (b := 0) hme (by decide)).mp b
      omega
    simp [st_past, bI_n0 a, this]
  · have h1 : 0 < sm N (sl N - 3) := Nat.pos_of_ne_zero fun z => b ((nI_leI (b := 0) hme (by decide)).mpr (by omega))
    have e1 : st_past N = N % 32 ^ (sl N - 1) := by simp [st_past, bI_n0 a, h1]
    have := g3 a
    rw [e1]
    exact stQ_cut h hg (by omega) (by omega) (pk_sub (b := 1) (by omega))
theorem c_St_turnFinalY (h : stI F r N lf vf) (hg : gw N) : Cal l X M_St_turnFinalY 0 0 [.ref r] n F (stQ n F r (st_fin N)) := by
  have hN := hg.2.1
  have hl := sl_le N
  have h0 := gd_pos hg.gd
  have hy := en_y hN h0
  have s1 : nI (sl N) - 1 = nI (sl N - 1) := pk_sub (b := 1) (by omega)
  have non : st_fin N = N → stQ n F r (st_fin N) none n F := fun e => by rw [e]; exact stQ_r h
  have cut : ¬ bI (sh N (sl N - 1)) = 0 → gw (N % 32 ^ (sl N - 1)) ∧ sl (N % 32 ^ (sl N - 1)) = sl N - 1 := fun z => by
    have := sh_0 (bI_n0 z)
    exact gw_cut hg (by omega) (by omega)
  refine Cal.of (by decide) (Nat.le_of_ble_eq_true rfl) (s_St_turnFinalY_0 (bc35 := 0) (bs35 := 0) (rc35 := 0) (rs35 := 0) (v16 := bI (sh N (sl N - 1))) (Q35 := stQ n (ev_up F r (.inr (1, [.ref (r + 1), .ref (r + 2), .int (nI (sl N - 1))]))) r (N % 32 ^ (sl N - 1) + 9 * 32 ^ sl (N % 32 ^ (sl N - 1)))) h.1 (Nat.le_refl 0) (Nat.le_refl 0) (c_St_endsIn h hN isE_13) (fun a => non ?_) (fun _ => ?_) (fun a b => non ?_) (fun a b => ?_) (fun a b v2 n2 F2 hq => ?_))
  · have := bI_1.mp a
    rw [hy] at this
    simp [st_fin, this]
  · rw [s1]
    exact c_St_hasVowel h (by omega)
  · simp [st_fin, bI_1.mp b]
  · obtain ⟨c, d⟩ := cut b
    rw [s1]
    exact c_St_append (c := 9) (stI_cut h hN d (by omega)) c.2.1 (by omega) (by decide) (by decide)
  · have hv := hq.1
    subst hv
    obtain ⟨c, d⟩ := cut b
    have h1 := bI_n0 a
    rw [hy] at h1
    have e1 : st_fin N = N % 32 ^ (sl N - 1) + 9 * 32 ^ (sl N - 1) := by simp [st_fin, h1, bI_n0 b]
    rw [d] at hq
    exact s_St_turnFinalY_38 (by rw [e1]; exact stQ_t (ag_u (ag_r _ _ _) (by omega) (by omega)) hq)
/-- the stemmer at r, whatever it holds -/
def stZ (F : ev_H) (r : Nat) : Prop := ∃ len lf vf, F r = some (.inr (1, [.ref (r + 1), .ref (r + 2), .int len])) ∧ F (r + 1) = some (.inl (3, 12, .inl lf)) ∧ F (r + 2) = some (.inl (2, 12, .inl vf))
theorem stI.z {F : ev_H} {r N : Nat} {lf vf : Nat → Int32} (h : stI F r N lf vf) : stZ F r := ⟨_, _, _, h.1, h.2.1, h.2.2.1⟩
/-- answers w; nothing but the stemmer's cells has changed -/
def stA (n : Nat) (F : ev_H) (r : Nat) (w : Int64) : Option Value → Nat → ev_H → Prop := fun v n' F' => v = some (.long w) ∧ n' = n ∧ stZ F' r ∧ ag F F' r (r + 3)
theorem c_St_stemOf (h : stZ F r) (hg : gw N) : Cal l X M_St_stemOf 0 0 [.ref r, .long (lN N)] n F (stA n F r (lN (st_stem N))) := by
  obtain ⟨len, lf, vf, h1, h2, h3⟩ := h
  have hl := sl_le N
  refine Cal.of (by decide) (Nat.le_of_ble_eq_true rfl) (s_St_stemOf_0 h1 (Nat.le_refl 0) (Nat.le_refl 0) (c_St_unpack hg h1 h2 h3) (fun v2 n2 F2 hq => ?_))
  obtain ⟨rfl, rfl, ⟨lg, vg, hI⟩, hA⟩ := hq
  refine s_St_stemOf_5 (bc14 := 0) (bs14 := 0) (rc14 := 0) (rs14 := 0) (Q14 := stQ n2 F2 r (st_plural N)) (v26 := lN N) hI.1 (Nat.le_refl 0) (Nat.le_refl 0) (fun _ => c_St_packed hg.2.1 hI) (fun a => ?_) (fun a => ?_) (fun a v3 n3 F3 hq => ?_)
  · have : sl N < 3 := by
      have := (nI_leI (b := 2) (by omega) (by decide)).mp a
      omega
    have e : st_stem N = N := by simp [st_stem, this]
    rw [e]
    exact ⟨rfl, rfl, hI.z, hA⟩
  · have h3 : 3 ≤ sl N := Nat.lt_of_not_le fun z => a ((nI_leI (b := 2) (by omega) (by decide)).mpr z)
    exact c_St_dropPlural hI hg h3
  · have h3 : 3 ≤ sl N := Nat.lt_of_not_le fun z => a ((nI_leI (b := 2) (by omega) (by decide)).mpr z)
    have h3' : ¬ sl N < 3 := by omega
    have es : st_stem N = st_fin (st_past (st_plural N)) := by simp [st_stem, h3']
    obtain ⟨rfl, rfl, ⟨lg3, vg3, hI3⟩, hA3⟩ := hq
    have g1 := gw_plural hg h3
    refine s_St_stemOf_17 hI3.1 (Nat.le_refl 0) (Nat.le_refl 0) (c_St_dropPast hI3 g1) (fun v4 n4 F4 hq => ?_)
    obtain ⟨rfl, rfl, ⟨lg4, vg4, hI4⟩, hA4⟩ := hq
    have g2 := gw_past g1
    refine s_St_stemOf_21 hI4.1 (Nat.le_refl 0) (Nat.le_refl 0) (c_St_turnFinalY hI4 g2) (fun v5 n5 F5 hq => ?_)
    obtain ⟨rfl, rfl, ⟨lg5, vg5, hI5⟩, hA5⟩ := hq
    have hf : st_fin (st_past (st_plural N)) < 32 ^ 12 := by
      unfold st_fin
      split
      · have a1 := sl_le (st_past (st_plural N))
        have a0 := gd_pos g2.gd
        have a2 : st_past (st_plural N) % 32 ^ (sl (st_past (st_plural N)) - 1) < 32 ^ (sl (st_past (st_plural N)) - 1) := Nat.mod_lt _ (pow32_pos _)
        have a3 := pow32_le (show sl (st_past (st_plural N)) - 1 ≤ 11 by omega)
        omega
      · exact g2.2.1
    refine s_St_stemOf_25 hI5.1 (c_St_packed hf hI5) ?_
    rw [es]
    exact ⟨rfl, rfl, hI5.z, ag_t (ag_t (ag_t hA hA3) hA4) hA5⟩
theorem c_St_termOf (h : stZ F r) (hg : gw N) : Cal l X M_St_termOf 0 0 [.ref r, .long (lN N)] n F (stA n F r (lN (st_term N))) := by
  have hz := h
  obtain ⟨len, lf, vf, h1, h2, h3⟩ := h
  refine Cal.of (by decide) (Nat.le_of_ble_eq_true rfl) (s_St_termOf_0 h1 (Nat.le_refl 0) (Nat.le_refl 0) (c_St_isStopWord hg.2.1) (fun _ => c_St_stemOf hz hg) (fun a v2 n2 F2 hq => ?_) (fun a => ?_))
  · have hv := hq.1
    subst hv
    refine s_St_termOf_16 ?_
    have e : st_term N = st_stem N := by simp [st_term, bI_1.mp a]
    rw [e]
    exact hq
  · have e : st_term N = 0 := by simp [st_term, bI_n0 a]
    rw [e]
    exact ⟨rfl, rfl, hz, ag_r _ _ _⟩
end ConSt4
