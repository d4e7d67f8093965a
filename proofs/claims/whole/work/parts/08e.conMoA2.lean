/-! the reference's methods on words, more -/
theorem w_first {N i : Nat} (h : N < 2 ^ 62) (hi : i < 13) : lN N &&& (((1 : Int64) <<< ((5 * nI i).toInt64 &&& 63)) - 1) = lN (N % 32 ^ i) := by
  have e1 : (1 : Int64) <<< ((5 * nI i).toInt64 &&& 63) = lN (32 ^ i) := by
    rw [show (1 : Int64) = lN 1 from rfl, g_shl (w_sh5u i hi) (by omega) (w_p5 i) (by decide), Nat.one_mul]
  rw [e1, show (1 : Int64) = lN 1 from rfl, lN_sub (pow32_pos i), g_mask (s := 5 * i) (w_p5 i) (by omega) (Nat.lt_of_lt_of_le h (by decide))]
/-- the word ends so -/
def en (N E : Nat) : Bool := decide (sl E ≤ sl N ∧ N / 32 ^ (sl N - sl E) = E)
/-- a word: its letters are 1 to 26 -/
def gw (N : Nat) : Prop := 0 < N ∧ N < 32 ^ 12 ∧ ∀ i, i < sl N → 1 ≤ sd N i ∧ sd N i ≤ 26
section MoWords
variable {l : Launch} {X : ev_X} {n : Nat} {F : ev_H}
theorem c_Mo_first {N i : Nat} (h : N < 2 ^ 62) (hi : i < 13) : Cal l X M_Mo_first 0 0 [.long (lN N), .int (nI i)] n F (ev_pure (.long (lN (N % 32 ^ i))) n F) :=
  Cal.of (by decide) (Nat.le_of_ble_eq_true rfl) (s_Mo_first_0 ⟨by rw [w_first h hi], rfl, rfl⟩)
theorem c_Mo_text {a b c d : Int32} {v : Int64} (hv : ((a.toInt64 ||| (b.toInt64 <<< ((5 : Int32).toInt64 &&& 63))) ||| (c.toInt64 <<< ((10 : Int32).toInt64 &&& 63))) ||| (d.toInt64 <<< ((15 : Int32).toInt64 &&& 63)) = v) : Cal l X M_Mo_text 0 0 [.int a, .int b, .int c, .int d] n F (ev_pure (.long v) n F) :=
  Cal.of (by decide) (Nat.le_of_ble_eq_true rfl) (s_Mo_text_0 ⟨by rw [hv], rfl, rfl⟩)
theorem c_Mo_without {N k : Nat} (h : N < 32 ^ 12) (hk : k ≤ sl N) : Cal l X M_Mo_without 0 0 [.long (lN N), .int (nI k)] n F (ev_pure (.long (lN (N % 32 ^ (sl N - k)))) n F) := by
  have h62 : N < 2 ^ 62 := Nat.lt_of_lt_of_le h (by decide)
  have hl := sl_le N
  refine Cal.of (by decide) (Nat.le_of_ble_eq_true rfl) (s_Mo_without_0 (v2 := nI (sl N)) (v7 := lN (N % 32 ^ (sl N - k))) (c_Mo_length h) ?_ ⟨rfl, rfl, rfl⟩)
  rw [pk_sub hk]
  exact c_Mo_first h62 (by omega)
theorem c_Mo_ends {N E : Nat} (h : N < 32 ^ 12) (hE : E < 32 ^ 12) : Cal l X M_Mo_ends 0 0 [.long (lN N), .long (lN E)] n F (ev_pure (.int (bI (en N E))) n F) := by
  have h62 : N < 2 ^ 62 := Nat.lt_of_lt_of_le h (by decide)
  have hl := sl_le N
  have hl2 := sl_le E
  refine Cal.of (by decide) (Nat.le_of_ble_eq_true rfl) (s_Mo_ends_0 (v1 := nI (sl N)) (v5 := nI (sl E)) (c_Mo_length h) (c_Mo_length hE) (fun c => ?_) (fun c d => ?_) (fun c d => ?_))
  · have : ¬ sl E ≤ sl N := fun z => by
      rw [pk_sub z] at c
      exact absurd c (nI_pos (by omega))
    refine ⟨?_, rfl, rfl⟩
    simp [en, this, bI]
  · have hle : sl E ≤ sl N := Nat.le_of_not_lt fun z => c (pk_sneg (by omega) z)
    rw [pk_sub hle, w_shr h62 (by omega), lg_cmp_eq] at d
    have : ¬ N / 32 ^ (sl N - sl E) = E := fun z => d (by rw [z])
    refine ⟨?_, rfl, rfl⟩
    simp [en, this, bI]
  · have hle : sl E ≤ sl N := Nat.le_of_not_lt fun z => c (pk_sneg (by omega) z)
    rw [pk_sub hle, w_shr h62 (by omega), lg_cmp_eq] at d
    have h1 : N / 32 ^ (sl N - sl E) < 2 ^ 63 := Nat.lt_of_le_of_lt (Nat.div_le_self _ _) (Nat.lt_of_lt_of_le h62 (by decide))
    have := (pk_lEQ h1 (Nat.lt_of_lt_of_le hE (by decide))).mp d
    refine ⟨?_, rfl, rfl⟩
    simp [en, hle, this, bI]
theorem c_Mo_measure {N e : Nat} (h : N < 2 ^ 62) (he : e ≤ 12) : Cal l X M_Mo_measure 0 0 [.long (lN N), .int (nI e)] n F (ev_pure (.int (nI (sm N e))) n F) := by
  have key : ∀ (d k : Nat), k + d = e - 1 → Ev l X M_Mo_measure 0 0 5 [(0, .long (lN N)), (2, .int (nI e)), (3, .int (nI (smc N k))), (4, .int (nI k))] [] n F (ev_mq X (ev_pure (.int (nI (sm N e))) n F)) := by
    intro d
    induction d with
    | zero =>
      intro k hk
      have hle : nI e ≤ nI k + 1 := by
        rw [nI_1]
        exact (nI_leI (by omega) (by omega)).mpr (by omega)
      refine s_Mo_measure_5 (v16 := 0) (v27 := 0) (fun _ => ?_) ?_ ?_ ?_ ?_ ?_
      · have e1 : k = e - 1 := by omega
        rw [e1]
        exact ⟨rfl, rfl, rfl⟩
      all_goals exact fun c => absurd hle c
    | succ d ih =>
      intro k hk
      have hgt : ¬ nI e ≤ nI k + 1 := fun z => by
        rw [nI_1] at z
        have := (nI_leI (by omega) (by omega)).mp z
        omega
      have hs : smc N (k + 1) = smc N k + if sv N k && !sv N (k + 1) then 1 else 0 := rfl
      have st : ∀ b : Int32, b = nI (smc N (k + 1)) → Ev l X M_Mo_measure 0 0 5 [(0, .long (lN N)), (2, .int (nI e)), (3, .int b), (4, .int (nI k + 1))] [] n F (ev_mq X (ev_pure (.int (nI (sm N e))) n F)) := by
        intro b hb
        rw [hb, nI_1]
        exact ih (k + 1) (by omega)
      refine s_Mo_measure_5 (v16 := bI (sv N k)) (v27 := bI (sv N (k + 1))) (fun c => absurd c hgt) (fun _ => c_Mo_isVowel h (by omega)) (fun _ a => st _ ?_) (fun _ _ => ?_) (fun _ a b => st _ ?_) (fun _ a b => st _ ?_)
      · rw [hs, bI_1.mp a]
        simp
      · rw [nI_1]
        exact c_Mo_isVowel h (by omega)
      · have hb : sv N (k + 1) = true := by
          cases hv : sv N (k + 1) with
          | true => rfl
          | false => exact absurd (bI_1.mpr hv) b
        rw [hs, hb]
        simp
      · have ha : sv N k = true := by
          cases hv : sv N k with
          | true => rfl
          | false => exact absurd (bI_1.mpr hv) a
        rw [hs, ha, bI_1.mp b, nI_1]
        simp
  exact Cal.of (by decide) (Nat.le_of_ble_eq_true rfl) (s_Mo_measure_0 (key (e - 1) 0 (by omega)))
theorem c_Mo_someVowel {N e : Nat} (h : N < 2 ^ 62) (he : e ≤ 12) : Cal l X M_Mo_someVowel 0 0 [.long (lN N), .int (nI e)] n F (ev_pure (.int (bI (sh N e))) n F) := by
  have key : ∀ (d k : Nat), k + d = e → Ev l X M_Mo_someVowel 0 0 5 [(0, .long (lN N)), (2, .int (nI e)), (3, .int (bI (sh N k))), (4, .int (nI k))] [] n F (ev_mq X (ev_pure (.int (bI (sh N e))) n F)) := by
    intro d
    induction d with
    | zero =>
      intro k hk
      have e1 : k = e := by omega
      subst e1
      have hle : nI k ≤ nI k := (nI_leI (by omega) (by omega)).mpr (by omega)
      refine s_Mo_someVowel_5 (v18 := 0) (fun _ => ⟨rfl, rfl, rfl⟩) (fun _ => bI_nar _) ?_ ?_ ?_ ?_
      all_goals exact fun c => absurd hle c
    | succ d ih =>
      intro k hk
      have hgt : ¬ nI e ≤ nI k := fun z => by
        have := (nI_leI (by omega) (by omega)).mp z
        omega
      have st : ∀ b : Int32, b = bI (sh N (k + 1)) → Ev l X M_Mo_someVowel 0 0 5 [(0, .long (lN N)), (2, .int (nI e)), (3, .int b), (4, .int (nI k + 1))] [] n F (ev_mq X (ev_pure (.int (bI (sh N e))) n F)) := by
        intro b hb
        rw [hb, nI_1]
        exact ih (k + 1) (by omega)
      have nz : ∀ {b : Bool}, ¬ bI b = 0 → b = true := fun {b} hb => by
        cases b with
        | true => rfl
        | false => exact absurd (bI_1.mpr rfl) hb
      refine s_Mo_someVowel_5 (v18 := bI (sv N k)) (fun c => absurd c hgt) (fun c => absurd c hgt) (fun _ a => st _ ?_) (fun _ _ => c_Mo_isVowel h (by omega)) (fun _ a b => st _ ?_) (fun _ a b => st _ ?_)
      · simp [sh, nz a, bI]
      · simp [sh, bI_1.mp a, bI_1.mp b, bI]
      · simp [sh, bI_1.mp a, nz b, bI]
  exact Cal.of (by decide) (Nat.le_of_ble_eq_true rfl) (s_Mo_someVowel_0 (key e 0 (by omega)))
end MoWords
