/-! the class's stemmer: contracts -/
theorem okd_mono {N j k : Nat} (h : okd N k = true) (hj : j ≤ k) : okd N j = true := okd_iff.mpr fun i hi => okd_iff.mp h i (by omega)
theorem sl_le_of {N k : Nat} (h : N < 32 ^ 12) (h1 : N < 32 ^ k) : sl N ≤ k := by
  by_cases e : N = 0
  · subst e
    exact Nat.zero_le _
  · refine Nat.le_of_not_lt fun g => ?_
    have a := sl_ge e h
    have b := pow32_le (show k ≤ sl N - 1 by omega)
    omega
theorem lt_sl_of {N i : Nat} (h : N < 32 ^ 12) (h1 : 32 ^ i ≤ N) : i < sl N := by
  refine Nat.lt_of_not_le fun g => ?_
  have a := sl_lt h
  have b := pow32_le g
  omega
theorem isw_64 {N : Nat} (h : N < 2 ^ 64) : isw (lN N) = (decide (0 < N) && (decide (N < 32 ^ 12) && okd N (sl N))) := by
  by_cases h1 : N < 32 ^ 12
  · by_cases h0 : 0 < N
    · rw [isw_N h0 (Nat.lt_of_lt_of_le h1 (by decide))]
      simp [h0]
    · have e : N = 0 := by omega
      subst e
      decide
  · have e : (lN N).toBitVec.toNat = N := wb_tn h
    unfold isw
    rw [e]
    simp [h1]
theorem w_5 {n : Nat} (hn : n < 2 ^ 64) : ((lN n).toUInt64 >>> ((5 : Int32).toInt64.toUInt64 &&& Int64.toUInt64 63)).toInt64 = lN (n / 32) := by
  have := wb_shr (k := 5) hn (by decide)
  exact this
theorem w_31 {n : Nat} (hn : n < 2 ^ 64) : lN n &&& 31 = lN (n % 32) := by
  rw [show (31 : Int64) = lN (32 - 1) from by decide, g_mask (s := 5) rfl (by decide) hn]
theorem w_div (N i : Nat) : N / 32 ^ i / 32 = N / 32 ^ (i + 1) := by rw [Nat.div_div_eq_div_mul, ← Nat.pow_succ]
section ConSt
variable {l : Launch} {X : ev_X} {n : Nat} {F : ev_H}
theorem c_St_isWord (w : Int64) : Cal l X M_St_isWord 0 0 [.long w] n F (ev_pure (.int (bI (isw w))) n F) := by
  obtain ⟨N, hN, rfl⟩ := wb_of w
  have hdv : ∀ i, N / 32 ^ i < 2 ^ 64 := fun i => Nat.lt_of_le_of_lt (Nat.div_le_self _ _) hN
  have z0 : ∀ {a : Nat}, a < 2 ^ 64 → (lg_cmp (lN a) 0 = 0 ↔ a = 0) := fun {a} ha => by
    rw [lg_cmp_eq]
    constructor
    · intro e
      have := congrArg (fun x => x.toBitVec.toNat) e
      rw [wb_tn ha] at this
      exact this
    · intro e
      rw [e]
      rfl
  have w53 : ∀ (i : Nat), i ≤ 12 → okd N i = true → (i = 12 ∨ N / 32 ^ i = 0) → Ev l X M_St_isWord 0 0 53 [(0, .long (lN N)), (2, .long (lN (N / 32 ^ i))), (4, .int (nI i))] [] n F (ev_mq X (ev_pure (.int (bI (isw (lN N)))) n F)) := by
    intro i hi hok hor
    rw [isw_64 hN]
    refine s_St_isWord_53 (fun a => s_St_isWord_70 ⟨?_, rfl, rfl⟩ rfl) (fun a b => s_St_isWord_70 ⟨?_, rfl, rfl⟩ rfl) (fun a b => s_St_isWord_70 ⟨?_, rfl, rfl⟩ rfl)
    · have := (z0 hN).mp a
      simp [this, bI]
    · have hne : ¬ N / 32 ^ i = 0 := fun z => b ((z0 (hdv i)).mpr z)
      have e : i = 12 := hor.resolve_right hne
      subst e
      have : ¬ N < 32 ^ 12 := fun z => hne (Nat.div_eq_of_lt z)
      simp [this, bI]
    · have h0 : 0 < N := Nat.pos_of_ne_zero fun z => a ((z0 hN).mpr z)
      have hz := (z0 (hdv i)).mp b
      have hlt : N < 32 ^ i := by
        rcases Nat.lt_or_ge N (32 ^ i) with g | g
        · exact g
        · have := Nat.div_pos g (pow32_pos i)
          omega
      have h12 : N < 32 ^ 12 := Nat.lt_of_lt_of_le hlt (pow32_le hi)
      have hk := okd_mono hok (sl_le_of h12 hlt)
      simp [h0, h12, hk, bI]
  have w41 : ∀ (i : Nat) (j5 : Int64), N / 32 ^ i ≠ 0 → ¬ (1 ≤ sd N i ∧ sd N i ≤ 26) → Ev l X M_St_isWord 0 0 41 [(0, .long (lN N)), (2, .long (lN (N / 32 ^ i))), (4, .int (nI i)), (5, .long j5)] [] n F (ev_mq X (ev_pure (.int (bI (isw (lN N)))) n F)) := by
    intro i j5 hne hbad
    refine s_St_isWord_41 ⟨?_, rfl, rfl⟩
    rw [isw_64 hN]
    by_cases h12 : N < 32 ^ 12
    · have hge : 32 ^ i ≤ N := by
        rcases Nat.lt_or_ge N (32 ^ i) with g | g
        · exact absurd (Nat.div_eq_of_lt g) hne
        · exact g
      have : okd N (sl N) = false := by
        cases hk : okd N (sl N) with
        | false => rfl
        | true => exact absurd (okd_iff.mp hk i (lt_sl_of h12 hge)) hbad
      simp [this, bI]
    · simp [h12, bI]
  have key : ∀ (e i : Nat), i + e = 12 → okd N i = true → Ev l X M_St_isWord 0 0 5 [(0, .long (lN N)), (2, .long (lN (N / 32 ^ i))), (4, .int (nI i))] [] n F (ev_mq X (ev_pure (.int (bI (isw (lN N)))) n F)) := by
    intro e
    induction e with
    | zero =>
      intro i hi hok
      have e1 : i = 12 := by omega
      subst e1
      refine s_St_isWord_5 (fun _ => w53 12 (by omega) hok (Or.inl rfl)) ?_ ?_ ?_ ?_
      all_goals exact fun c => absurd (by decide) c
    | succ e ih =>
      intro i hi hok
      have hgt : ¬ (12 : Int32) ≤ nI i := i_ge (a := 12) (by decide) (by omega) (by omega)
      have hd := sd_lt N i
      have e31 : lN (N / 32 ^ i) &&& 31 = lN (sd N i) := w_31 (hdv i)
      have c1 : lg_cmp (lN (sd N i)) 1 < 0 ↔ sd N i < 1 := by
        rw [lg_cmp_lt]
        exact pk_lLT (b := 1) (by omega) (by decide)
      have c26 : lg_cmp (lN (sd N i)) 26 ≤ 0 ↔ sd N i ≤ 26 := by
        rw [lg_cmp_le]
        exact pk_lLE (b := 26) (by omega) (by decide)
      refine s_St_isWord_5 (fun c => absurd c hgt) (fun _ a => w53 i (by omega) hok (Or.inr ((z0 (hdv i)).mp a))) (fun _ a b => ?_) (fun _ a b c => ?_) (fun _ a b c => ?_)
      · rw [e31] at b
        refine w41 i _ (fun z => a ((z0 (hdv i)).mpr z)) (fun z => ?_)
        have := c1.mp b
        omega
      · rw [e31] at b c
        rw [w_5 (hdv i), w_div, nI_1]
        refine ih (i + 1) (by omega) ?_
        have h1 : 1 ≤ sd N i := Nat.le_of_not_lt fun z => b (c1.mpr z)
        simp [okd, hok, h1, c26.mp c]
      · rw [e31] at c
        refine w41 i _ (fun z => a ((z0 (hdv i)).mpr z)) (fun z => c (c26.mpr z.2))
  have h0 := key 12 0 (by omega) rfl
  rw [show N / 32 ^ 0 = N by simp] at h0
  exact Cal.of (by decide) (Nat.le_of_ble_eq_true rfl) (s_St_isWord_0 h0)
theorem c_St_isStopWord {N : Nat} (h : N < 32 ^ 12) : Cal l X M_St_isStopWord 0 0 [.long (lN N)] n F (ev_pure (.int (bI (st_stop N))) n F) := by
  have h63 : N < 2 ^ 63 := Nat.lt_of_lt_of_le h (by decide)
  have key : ∀ (e i : Nat), i + e = 8 → (∀ j, j < i → ev_stop.getD j 0 ≠ lN N) → Ev l X M_St_isStopWord 0 0 2 [(0, .long (lN N)), (2, .int (nI i))] [] n F (ev_mq X (ev_pure (.int (bI (st_stop N))) n F)) := by
    have cs : ∀ c, c < 2 ^ 63 → (lN c = lN N ↔ c = N) := fun c hc => pk_lEQ hc h63
    intro e
    induction e with
    | zero =>
      intro i hi hn
      have e1 : i = 8 := by omega
      subst e1
      refine s_St_isStopWord_2 (fun _ => ⟨?_, rfl, rfl⟩) ?_ ?_ ?_
      · have k0 := hn 0 (by decide)
        have k1 := hn 1 (by decide)
        have k2 := hn 2 (by decide)
        have k3 := hn 3 (by decide)
        have k4 := hn 4 (by decide)
        have k5 := hn 5 (by decide)
        have k6 := hn 6 (by decide)
        have k7 := hn 7 (by decide)
        have a0 : ¬ N = 1 := fun z => k0 (by rw [z]; rfl)
        have a1 : ¬ N = 449 := fun z => k1 (by rw [z]; rfl)
        have a2 : ¬ N = 4545 := fun z => k2 (by rw [z]; rfl)
        have a3 : ¬ N = 457 := fun z => k3 (by rw [z]; rfl)
        have a4 : ¬ N = 207 := fun z => k4 (by rw [z]; rfl)
        have a5 : ¬ N = 591 := fun z => k5 (by rw [z]; rfl)
        have a6 : ¬ N = 5396 := fun z => k6 (by rw [z]; rfl)
        have a7 : ¬ N = 500 := fun z => k7 (by rw [z]; rfl)
        simp [st_stop, a0, a1, a2, a3, a4, a5, a6, a7, bI]
      all_goals exact fun c => absurd (by decide) c
    | succ e ih =>
      intro i hi hn
      have hgt : ¬ nI 8 ≤ nI i := i_ge (by decide) (by omega) (by omega)
      refine s_St_isStopWord_2 (fun c => absurd c hgt) (fun _ => vp_in_nI (by omega) (by decide)) (fun _ a => ?_) (fun _ a => ⟨?_, rfl, rfl⟩)
      · rw [nI_clamp (by omega), lg_cmp_eq] at a
        rw [nI_1]
        refine ih (i + 1) (by omega) (fun j hj => ?_)
        by_cases e2 : j = i
        · rw [e2]; exact a
        · exact hn j (by omega)
      · rw [nI_clamp (by omega), lg_cmp_eq] at a
        have hi8 : i < 8 := by omega
        have hN : ∃ c ∈ [1, 449, 4545, 457, 207, 591, 5396, 500], N = c := by
          have key2 : ∀ i, i < 8 → ∃ c ∈ [1, 449, 4545, 457, 207, 591, 5396, 500], ev_stop.getD i 0 = lN c ∧ c < 2 ^ 63 := by decide +kernel
          obtain ⟨c, hc, he, hl⟩ := key2 i hi8
          exact ⟨c, hc, ((cs c hl).mp (he.symm.trans a)).symm⟩
        obtain ⟨c, hc, rfl⟩ := hN
        have key3 : ∀ c ∈ [1, 449, 4545, 457, 207, 591, 5396, 500], st_stop c = true := by decide +kernel
        rw [key3 _ hc]
        rfl
  exact Cal.of (by decide) (Nat.le_of_ble_eq_true rfl) (s_St_isStopWord_0 (key 8 0 rfl (fun j hj => absurd hj (by omega))))
end ConSt
