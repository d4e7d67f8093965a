/-! the class's stemmer: endings, measure and vowels -/
theorem num_ext : ∀ {m a b : Nat}, a < 32 ^ m → b < 32 ^ m → (∀ j, j < m → sd a j = sd b j) → a = b
  | 0, a, b, ha, hb, _ => by
    simp at ha hb
    omega
  | m + 1, a, b, ha, hb, h => by
    have h0 := h 0 (by omega)
    have e : a / 32 = b / 32 := by
      rw [Nat.pow_succ] at ha hb
      refine num_ext (m := m) (Nat.div_lt_of_lt_mul (by rw [Nat.mul_comm]; exact ha)) (Nat.div_lt_of_lt_mul (by rw [Nat.mul_comm]; exact hb)) (fun j hj => ?_)
      have := h (j + 1) (by omega)
      rw [show a / 32 = a / 32 ^ 1 from rfl, show b / 32 = b / 32 ^ 1 from rfl, sd_shr, sd_shr, Nat.add_comm 1 j]
      exact this
    unfold sd at h0
    simp at h0
    omega
theorem en_iff {N E : Nat} (hN : N < 32 ^ 12) (hE : E < 32 ^ 12) (hle : sl E ≤ sl N) : en N E = true ↔ ∀ j, j < sl E → sd N (sl N - sl E + j) = sd E j := by
  unfold en
  rw [decide_eq_true_iff]
  constructor
  · rintro ⟨_, h⟩ j hj
    rw [← sd_shr, h]
  · intro h
    refine ⟨hle, num_ext (m := sl E) ?_ (sl_lt hE) (fun j hj => by rw [sd_shr]; exact h j hj)⟩
    refine Nat.div_lt_of_lt_mul ?_
    rw [← Nat.pow_add, show sl N - sl E + sl E = sl N by omega]
    exact sl_lt hN
/-- string i is the word E -/
abbrev isE (i E : Nat) : Prop := i < 14 ∧ E < 32 ^ 12 ∧ sl E = ev_sln.getD i 0 ∧ ∀ j, j < ev_sln.getD i 0 → sb i j = nI (96 + sd E j)
theorem isE_1 : isE 1 (T4 19 19 5 19) := by decide +kernel
theorem isE_2 : isE 2 (T4 9 5 19 0) := by decide +kernel
theorem isE_3 : isE 3 (T4 19 0 0 0) := by decide +kernel
theorem isE_4 : isE 4 (T4 19 19 0 0) := by decide +kernel
theorem isE_5 : isE 5 (T4 5 5 4 0) := by decide +kernel
theorem isE_6 : isE 6 (T4 5 4 0 0) := by decide +kernel
theorem isE_7 : isE 7 (T4 9 14 7 0) := by decide +kernel
theorem isE_8 : isE 8 (T4 1 20 0 0) := by decide +kernel
theorem isE_9 : isE 9 (T4 2 12 0 0) := by decide +kernel
theorem isE_10 : isE 10 (T4 9 26 0 0) := by decide +kernel
theorem isE_13 : isE 13 25 := by decide +kernel
section ConSt3
variable {l : Launch} {X : ev_X} {n : Nat} {F : ev_H} {r N : Nat} {lf vf : Nat → Int32}
theorem c_St_endsIn {i E : Nat} (h : stI F r N lf vf) (hN : N < 32 ^ 12) (hE : isE i E) : Cal l X M_St_endsIn 0 0 [.ref r, .ref (X.2.2.2.1 (10 + i))] n F (ev_pure (.int (bI (en N E))) n F) := by
  obtain ⟨hi, hE1, hE2, hE3⟩ := hE
  have hl := sl_le N
  have hl2 := sl_le E
  have hs := isS_of (X := X) hi
  have key : sl E ≤ sl N → ∀ (e k : Nat), k + e = sl E → (∀ j, j < k → sd N (sl N - sl E + j) = sd E j) → Ev l X M_St_endsIn 0 0 18 [(0, .ref r), (1, .ref (X.2.2.2.1 (10 + i))), (2, .int (nI (sl N - sl E))), (3, .int (nI k))] [] n F (ev_mq X (ev_pure (.int (bI (en N E))) n F)) := by
    intro hle e
    induction e with
    | zero =>
      intro k hk hall
      have e1 : k = sl E := by omega
      have hc : nI (ev_sln.getD i 0) ≤ nI k := by
        rw [← hE2, e1]
        exact (nI_leI (by omega) (by omega)).mpr (Nat.le_refl _)
      refine s_St_endsIn_18 (v36 := 0) hs h.1 h.2.1 (c_Str_length hs) (fun _ => ⟨?_, rfl, rfl⟩) ?_ ?_ ?_ ?_
      · rw [(en_iff hN hE1 hle).mpr (fun j hj => hall j (by omega))]
        rfl
      all_goals exact fun c => absurd hc c
    | succ e ih =>
      intro k hk hall
      have hgt : ¬ nI (ev_sln.getD i 0) ≤ nI k := by
        rw [← hE2]
        exact i_ge (by omega) (by omega) (by omega)
      have hla : lf (nI (sl N - sl E) + nI k).toNatClampNeg = nI (96 + sd N (sl N - sl E + k)) := by
        rw [nI_add, nI_clamp (by omega)]
        exact (h.2.2.2 _ (by omega)).1
      have d1 := sd_lt N (sl N - sl E + k)
      have d2 := sd_lt E k
      refine s_St_endsIn_18 (v36 := sb i k) hs h.1 h.2.1 (c_Str_length hs) (fun c => absurd c hgt) (fun _ => by rw [nI_add]; exact vp_in_nI (by omega) (by decide)) (fun _ => c_Str_charAt hs (by omega)) (fun _ a => ?_) (fun _ a => ⟨?_, rfl, rfl⟩)
      · rw [hla, hE3 k (by omega), nI_eq (by omega) (by omega)] at a
        rw [nI_1]
        refine ih (k + 1) (by omega) (fun j hj => ?_)
        by_cases e2 : j = k
        · rw [e2]; omega
        · exact hall j (by omega)
      · rw [hla, hE3 k (by omega), nI_eq (by omega) (by omega)] at a
        have : en N E = false := by
          cases hx : en N E with
          | false => rfl
          | true => exact absurd ((en_iff hN hE1 hle).mp hx k (by omega)) (by omega)
        rw [this]
        rfl
  refine Cal.of (by decide) (Nat.le_of_ble_eq_true rfl) (s_St_endsIn_0 h.1 hs (c_Str_length hs) (fun a => ?_) (fun a => ⟨?_, rfl, rfl⟩))
  · rw [← hE2] at a ⊢
    have hle : sl E ≤ sl N := Nat.le_of_not_lt fun z => absurd a (by
      have := pk_sneg (a := sl N) (b := sl E) (by omega) z
      exact Int32.not_le.mpr this)
    rw [pk_sub hle]
    exact key hle (sl E) 0 (by omega) (fun j hj => absurd hj (by omega))
  · rw [← hE2] at a
    have hle : ¬ sl E ≤ sl N := fun z => a (by
      rw [pk_sub z]
      exact (nI_leI (a := 0) (by decide) (by omega)).mpr (by omega))
    simp [en, hle, bI]
theorem c_St_measure {e : Nat} (h : stI F r N lf vf) (he : e ≤ sl N) : Cal l X M_St_measure 0 0 [.ref r, .int (nI e)] n F (ev_pure (.int (nI (sm N e))) n F) := by
  have hl := sl_le N
  have vv : ∀ k, k < sl N → vf (nI k).toNatClampNeg = bI (sv N k) := fun k hk => by
    rw [nI_clamp (by omega)]
    exact (h.2.2.2 k hk).2
  have key : ∀ (d k : Nat), k + d = e - 1 → Ev l X M_St_measure 0 0 4 [(0, .ref r), (1, .int (nI e)), (2, .int (nI (smc N k))), (3, .int (nI k))] [] n F (ev_mq X (ev_pure (.int (nI (sm N e))) n F)) := by
    intro d
    induction d with
    | zero =>
      intro k hk
      have hle : nI e ≤ nI k + 1 := by
        rw [nI_1]
        exact (nI_leI (by omega) (by omega)).mpr (by omega)
      refine s_St_measure_4 h.1 h.2.2.1 (fun _ => ?_) ?_ ?_ ?_ ?_ ?_
      · have e1 : k = e - 1 := by omega
        rw [e1]
        exact ⟨rfl, rfl, rfl⟩
      all_goals exact fun c => absurd hle c
    | succ d ih =>
      intro k hk
      have hgt : ¬ nI e ≤ nI k + 1 := fun z => by
        rw [nI_1] at z
        have := (nI_leI (by omega) (by omega)).mp z
        omega
      have hs : smc N (k + 1) = smc N k + if sv N k && !sv N (k + 1) then 1 else 0 := rfl
      have st : ∀ b : Int32, b = nI (smc N (k + 1)) → Ev l X M_St_measure 0 0 4 [(0, .ref r), (1, .int (nI e)), (2, .int b), (3, .int (nI k + 1))] [] n F (ev_mq X (ev_pure (.int (nI (sm N e))) n F)) := by
        intro b hb
        rw [hb, nI_1]
        exact ih (k + 1) (by omega)
      refine s_St_measure_4 h.1 h.2.2.1 (fun c => absurd c hgt) (fun _ => vp_in_nI (by omega) (by decide)) (fun _ a => st _ ?_) (fun _ _ => by rw [nI_1]; exact vp_in_nI (by omega) (by decide)) (fun _ a b => st _ ?_) (fun _ a b => st _ ?_)
      · rw [vv k (by omega)] at a
        rw [hs, bI_1.mp a]
        simp
      · rw [nI_1, vv (k + 1) (by omega)] at b
        rw [hs, bI_n0 b]
        simp
      · rw [vv k (by omega)] at a
        rw [nI_1, vv (k + 1) (by omega)] at b
        rw [hs, bI_n0 a, bI_1.mp b, nI_1]
        simp
  exact Cal.of (by decide) (Nat.le_of_ble_eq_true rfl) (s_St_measure_0 (key (e - 1) 0 (by omega)))
theorem c_St_hasVowel {e : Nat} (h : stI F r N lf vf) (he : e ≤ sl N) : Cal l X M_St_hasVowel 0 0 [.ref r, .int (nI e)] n F (ev_pure (.int (bI (sh N e))) n F) := by
  have hl := sl_le N
  have vv : ∀ k, k < sl N → vf (nI k).toNatClampNeg = bI (sv N k) := fun k hk => by
    rw [nI_clamp (by omega)]
    exact (h.2.2.2 k hk).2
  have mono : ∀ (d k : Nat), sh N k = true → sh N (k + d) = true := by
    intro d k hk
    induction d with
    | zero => exact hk
    | succ d ih =>
      show (sh N (k + d) || sv N (k + d)) = true
      rw [ih]
      rfl
  have key : ∀ (d k : Nat), k + d = e → sh N k = false → Ev l X M_St_hasVowel 0 0 2 [(0, .ref r), (1, .int (nI e)), (2, .int (nI k))] [] n F (ev_mq X (ev_pure (.int (bI (sh N e))) n F)) := by
    intro d
    induction d with
    | zero =>
      intro k hk hf
      have e1 : k = e := by omega
      subst e1
      have hle : nI k ≤ nI k := (nI_leI (by omega) (by omega)).mpr (by omega)
      refine s_St_hasVowel_2 h.1 h.2.2.1 (fun _ => ⟨by rw [hf]; rfl, rfl, rfl⟩) ?_ ?_ ?_
      all_goals exact fun c => absurd hle c
    | succ d ih =>
      intro k hk hf
      have hgt : ¬ nI e ≤ nI k := i_ge (by omega) (by omega) (by omega)
      refine s_St_hasVowel_2 h.1 h.2.2.1 (fun c => absurd c hgt) (fun _ => vp_in_nI (by omega) (by decide)) (fun _ a => ?_) (fun _ a => ⟨?_, rfl, rfl⟩)
      · rw [vv k (by omega)] at a
        rw [nI_1]
        refine ih (k + 1) (by omega) ?_
        show (sh N k || sv N k) = false
        rw [hf, bI_1.mp a]
        rfl
      · rw [vv k (by omega)] at a
        have := mono d (k + 1) (by show (sh N k || sv N k) = true; rw [bI_n0 a]; simp)
        rw [show k + 1 + d = e by omega] at this
        rw [this]
        rfl
  exact Cal.of (by decide) (Nat.le_of_ble_eq_true rfl) (s_St_hasVowel_0 (key e 0 (by omega) rfl))
theorem c_St_endsInDouble (h : stI F r N lf vf) : Cal l X M_St_endsInDouble 0 0 [.ref r] n F (ev_pure (.int (bI (st_twice N && !st_lsz (sd N (sl N - 1))))) n F) := by
  have hl := sl_le N
  have ge : ¬ nI (sl N) < 2 → 2 ≤ sl N := fun c => Nat.le_of_not_lt fun z => c ((nI_ltI (b := 2) (by omega) (by decide)).mpr z)
  have s1 : 2 ≤ sl N → nI (sl N) - 1 = nI (sl N - 1) := fun z => pk_sub (b := 1) (by omega)
  have s2 : 2 ≤ sl N → nI (sl N) - 2 = nI (sl N - 2) := fun z => pk_sub (b := 2) z
  have v1 : 2 ≤ sl N → vf (nI (sl N) - 1).toNatClampNeg = bI (sv N (sl N - 1)) := fun z => by
    rw [s1 z, nI_clamp (by omega)]; exact (h.2.2.2 _ (by omega)).2
  have v2 : 2 ≤ sl N → vf (nI (sl N) - 2).toNatClampNeg = bI (sv N (sl N - 2)) := fun z => by
    rw [s2 z, nI_clamp (by omega)]; exact (h.2.2.2 _ (by omega)).2
  have l1 : 2 ≤ sl N → lf (nI (sl N) - 1).toNatClampNeg = nI (96 + sd N (sl N - 1)) := fun z => by
    rw [s1 z, nI_clamp (by omega)]; exact (h.2.2.2 _ (by omega)).1
  have l2 : 2 ≤ sl N → lf (nI (sl N) - 2).toNatClampNeg = nI (96 + sd N (sl N - 2)) := fun z => by
    rw [s2 z, nI_clamp (by omega)]; exact (h.2.2.2 _ (by omega)).1
  have d1 := sd_lt N (sl N - 1)
  have d2 := sd_lt N (sl N - 2)
  have i1 : ¬ nI (sl N) < 2 → vp_in (nI (sl N) - 1) 12 := fun c => by rw [s1 (ge c)]; exact vp_in_nI (by have := ge c; omega) (by decide)
  have i2 : ¬ nI (sl N) < 2 → vp_in (nI (sl N) - 2) 12 := fun c => by rw [s2 (ge c)]; exact vp_in_nI (by have := ge c; omega) (by decide)
  refine Cal.of (by decide) (Nat.le_of_ble_eq_true rfl) (s_St_endsInDouble_0 (v68 := ixo (sb 11) (nI (96 + sd N (sl N - 1))).toInt8.toInt32 (ev_sln.getD 11 0) 0) h.1 h.2.2.1 h.2.1 (fun c => ⟨?_, rfl, rfl⟩) i1 (fun c a => ⟨?_, rfl, rfl⟩) (fun c _ => i2 c) (fun c _ _ => i1 c) (fun c _ _ => i2 c) (fun c a b d => ⟨?_, rfl, rfl⟩) (fun c a b d => ?_) (fun c a b d f => ⟨?_, rfl, rfl⟩) (fun c a b d f => ⟨?_, rfl, rfl⟩) (fun c a b => ⟨?_, rfl, rfl⟩))
  · have : ¬ 1 < sl N := by
      have := (nI_ltI (b := 2) (by omega) (by decide)).mp c
      omega
    simp [st_twice, this, bI]
  · rw [v1 (ge c)] at a
    simp [st_twice, bI_n0 a, bI]
  · rw [l1 (ge c), l2 (ge c), nI_eq (by omega) (by omega)] at d
    have : ¬ sd N (sl N - 1) = sd N (sl N - 2) := by omega
    simp [st_twice, this, bI]
  · rw [l1 (ge c)]
    exact c_Str_indexOf (isS_of (by decide)) (by omega)
  · have : st_lsz (sd N (sl N - 1)) = true := by rw [← ix_11 _ d1]; exact decide_eq_true f
    simp [this, bI]
  · have h1 : st_lsz (sd N (sl N - 1)) = false := by rw [← ix_11 _ d1]; exact decide_eq_false f
    rw [l1 (ge c), l2 (ge c), nI_eq (by omega) (by omega)] at d
    rw [v1 (ge c)] at a
    rw [v2 (ge c)] at b
    have h2 : sd N (sl N - 1) = sd N (sl N - 2) := by omega
    have h3 : 1 < sl N := by have := ge c; omega
    have h4 : st_twice N = true := by
      unfold st_twice
      rw [bI_1.mp a, bI_1.mp b, h2]
      simp [h3]
    rw [h1, h4]
    rfl
  · rw [v2 (ge c)] at b
    simp [st_twice, bI_n0 b, bI]
theorem c_St_endsShort (h : stI F r N lf vf) (hg : gw N) : Cal l X M_St_endsShort 0 0 [.ref r] n F (ev_pure (.int (bI (st_short N))) n F) := by
  have hl := sl_le N
  have ge : ¬ nI (sl N) < 3 → 3 ≤ sl N := fun c => Nat.le_of_not_lt fun z => c ((nI_ltI (b := 3) (by omega) (by decide)).mpr z)
  have sub : ∀ k, k ≤ 3 → 3 ≤ sl N → nI (sl N) - nI k = nI (sl N - k) := fun k hk h3 => pk_sub (by omega)
  have vv : ∀ k, 1 ≤ k → k ≤ 3 → 3 ≤ sl N → vf (nI (sl N) - nI k).toNatClampNeg = bI (sv N (sl N - k)) := fun k h1 hk h3 => by
    rw [sub k hk h3, nI_clamp (by omega)]; exact (h.2.2.2 _ (by omega)).2
  have l1 : 3 ≤ sl N → lf (nI (sl N) - 1).toNatClampNeg = nI (96 + sd N (sl N - 1)) := fun z => by
    rw [show (1 : Int32) = nI 1 from rfl, sub 1 (by omega) z, nI_clamp (by omega)]; exact (h.2.2.2 _ (by omega)).1
  have ii : ∀ k, 1 ≤ k → k ≤ 3 → ¬ nI (sl N) < 3 → vp_in (nI (sl N) - nI k) 12 := fun k h1 hk c => by
    rw [sub k hk (ge c)]; exact vp_in_nI (by have := ge c; omega) (by decide)
  have v1 := vv 1 (by omega) (by omega)
  have v2 := vv 2 (by omega) (by omega)
  have v3 := vv 3 (by omega) (by omega)
  have hd : 3 ≤ sl N → sd N (sl N - 1) < 27 := fun z => by have := hg.2.2 (sl N - 1) (by omega); omega
  refine Cal.of (by decide) (Nat.le_of_ble_eq_true rfl) (s_St_endsShort_0 (v63 := ixo (sb 12) (nI (96 + sd N (sl N - 1))).toInt8.toInt32 (ev_sln.getD 12 0) 0) h.1 h.2.2.1 h.2.1 (fun c => ⟨?_, rfl, rfl⟩) (fun c => ii 3 (by omega) (by omega) c) (fun c a => ⟨?_, rfl, rfl⟩) (fun c _ => ii 2 (by omega) (by omega) c) (fun c a b => ⟨?_, rfl, rfl⟩) (fun c _ _ => ii 1 (by omega) (by omega) c) (fun c a b d => ⟨?_, rfl, rfl⟩) (fun c _ _ _ => ii 1 (by omega) (by omega) c) (fun c a b d => ?_) (fun c a b d f => ⟨?_, rfl, rfl⟩) (fun c a b d f => ⟨?_, rfl, rfl⟩))
  · have : ¬ 3 ≤ sl N := by
      have := (nI_ltI (b := 3) (by omega) (by decide)).mp c
      omega
    simp [st_short, this, bI]
  · have a' := a; rw [show (3 : Int32) = nI 3 from rfl, v3 (ge c)] at a'
    simp [st_short, bI_n0 a', bI]
  · have a' := b; rw [show (2 : Int32) = nI 2 from rfl, v2 (ge c)] at a'
    simp [st_short, bI_1.mp a', bI]
  · have a' := d; rw [show (1 : Int32) = nI 1 from rfl, v1 (ge c)] at a'
    simp [st_short, bI_n0 a', bI]
  · rw [l1 (ge c)]
    have := hd (ge c)
    exact c_Str_indexOf (isS_of (by decide)) (by omega)
  · have h1 : (!(decide (sd N (sl N - 1) < 23) || sd N (sl N - 1) == 26)) = true := by rw [← ix_12 _ (hd (ge c))]; exact decide_eq_true f
    have h2 : (decide (sd N (sl N - 1) < 23) || sd N (sl N - 1) == 26) = false := by
      cases hx : (decide (sd N (sl N - 1) < 23) || sd N (sl N - 1) == 26) with
      | false => rfl
      | true => rw [hx] at h1; exact absurd h1 (by decide)
    unfold st_short
    rw [h2]
    simp [bI]
  · have h1 : (!(decide (sd N (sl N - 1) < 23) || sd N (sl N - 1) == 26)) = false := by rw [← ix_12 _ (hd (ge c))]; exact decide_eq_false f
    have h2 : (decide (sd N (sl N - 1) < 23) || sd N (sl N - 1) == 26) = true := by
      cases hx : (decide (sd N (sl N - 1) < 23) || sd N (sl N - 1) == 26) with
      | true => rfl
      | false => rw [hx] at h1; exact absurd h1 (by decide)
    rw [show (3 : Int32) = nI 3 from rfl] at a
    rw [show (2 : Int32) = nI 2 from rfl] at b
    rw [show (1 : Int32) = nI 1 from rfl] at d
    rw [v3 (ge c)] at a
    rw [v2 (ge c)] at b
    rw [v1 (ge c)] at d
    unfold st_short
    rw [h2, bI_1.mp a, bI_n0 b, bI_1.mp d]
    simp [ge c, bI]
end ConSt3
