/-! the reference's methods on words: contracts -/
theorem w_sh5 : ∀ i, i < 13 → (((5 * nI i).toInt64 &&& 63).toBitVec.smod 64).toNat = 5 * i := by decide +kernel
theorem w_sh5u : ∀ i, i < 13 → ((5 * nI i).toInt64 &&& 63).toBitVec.smod 64 = BitVec.ofNat 64 (5 * i) := by decide +kernel
theorem w_p5 (i : Nat) : 2 ^ (5 * i) = 32 ^ i := by rw [Nat.pow_mul]
theorem w_shr {N i : Nat} (h : N < 2 ^ 62) (hi : i < 13) : lN N >>> ((5 * nI i).toInt64 &&& 63) = lN (N / 32 ^ i) := by
  rw [pf_shr (w_sh5 i hi) h, w_p5]
theorem w_letter {N i : Nat} (h : N < 2 ^ 62) (hi : i < 13) : ((lN N >>> ((5 * nI i).toInt64 &&& 63)) &&& 31).toInt32 = nI (sd N i) := by
  have h1 : N / 32 ^ i < 2 ^ 64 := Nat.lt_of_le_of_lt (Nat.div_le_self _ _) (Nat.lt_of_lt_of_le h (by decide))
  rw [w_shr h hi, show (31 : Int64) = lN (32 - 1) from by decide, g_mask (s := 5) rfl (by decide) h1, lN_i]
  rfl
theorem w_zero {N i : Nat} (h : N < 2 ^ 62) (hi : i < 13) : lg_cmp (lN N >>> ((5 * nI i).toInt64 &&& 63)) 0 = 0 ↔ N / 32 ^ i = 0 := by
  have h1 : N / 32 ^ i < 2 ^ 63 := Nat.lt_of_le_of_lt (Nat.div_le_self _ _) (Nat.lt_of_lt_of_le h (by decide))
  rw [lg_cmp_eq, w_shr h hi, show (0 : Int64) = lN 0 from rfl]
  exact pk_lEQ h1 (by decide)
theorem i_le {a b : Nat} (ha : a < 2 ^ 31) (hb : b < 2 ^ 31) : nI a ≤ nI b ↔ a ≤ b := nI_leI ha hb
def bI (b : Bool) : Int32 := if b then 1 else 0
theorem bI_nar (b : Bool) : narrow .boolean (.int (bI b)) = .int (bI b) := by cases b <;> rfl
theorem bI_1 {b : Bool} : bI b = 0 ↔ b = false := by cases b <;> decide
theorem sv_yes {N k : Nat} (h : sa (sd N k) = true) : sv N k = true := by cases k <;> simp [sv, h]
section MoWords
variable {l : Launch} {X : ev_X} {n : Nat} {F : ev_H}
theorem c_Mo_letter {N i : Nat} (h : N < 2 ^ 62) (hi : i < 13) : Cal l X M_Mo_letter 0 0 [.long (lN N), .int (nI i)] n F (ev_pure (.int (nI (sd N i))) n F) :=
  Cal.of (by decide) (Nat.le_of_ble_eq_true rfl) (s_Mo_letter_0 ⟨by rw [w_letter h hi], rfl, rfl⟩)
theorem l_Mo_length {N : Nat} (h : N < 32 ^ 12) : ∀ (k i : Nat), i + k = 12 → (i = 0 ∨ 32 ^ (i - 1) ≤ N) → Ev l X M_Mo_length 0 0 2 [(0, .long (lN N)), (2, .int (nI i))] [] n F (ev_mq X (ev_pure (.int (nI (sl N))) n F)) := by
  have h62 : N < 2 ^ 62 := Nat.lt_of_lt_of_le h (by decide)
  intro k
  induction k with
  | zero =>
    intro i hk hi
    have e : i = 12 := by omega
    subst e
    refine s_Mo_length_2 (fun c => ?_) (fun c d => ?_) (fun c d => ?_)
    · rw [sl_uniq h h hi]
      exact ⟨rfl, rfl, rfl⟩
    · exact absurd (show (12 : Int32) ≤ nI 12 from by decide) c
    · exact absurd (show (12 : Int32) ≤ nI 12 from by decide) c
  | succ k ih =>
    intro i hk hi
    refine s_Mo_length_2 (fun c => ?_) (fun c d => ?_) (fun c d => ?_)
    · have := (i_le (a := 12) (b := i) (by decide) (by omega)).mp c
      omega
    · have hz := (w_zero h62 (by omega)).mp d
      have hlt : N < 32 ^ i := by
        rcases Nat.lt_or_ge N (32 ^ i) with g | g
        · exact g
        · have := Nat.div_pos g (pow32_pos i)
          omega
      rw [sl_uniq h hlt hi]
      exact ⟨rfl, rfl, rfl⟩
    · have hz : ¬ N / 32 ^ i = 0 := fun z => d ((w_zero h62 (by omega)).mpr z)
      rw [nI_1]
      refine ih (i + 1) (by omega) (Or.inr ?_)
      show 32 ^ i ≤ N
      rcases Nat.lt_or_ge N (32 ^ i) with g | g
      · exact absurd (Nat.div_eq_of_lt g) hz
      · exact g
theorem c_Mo_length {N : Nat} (h : N < 32 ^ 12) : Cal l X M_Mo_length 0 0 [.long (lN N)] n F (ev_pure (.int (nI (sl N))) n F) :=
  Cal.of (by decide) (Nat.le_of_ble_eq_true rfl) (s_Mo_length_0 (l_Mo_length h 12 0 rfl (Or.inl rfl)))
theorem c_Mo_isVowel {N i : Nat} (h : N < 2 ^ 62) (hi : i < 12) : Cal l X M_Mo_isVowel 0 0 [.long (lN N), .int (nI i)] n F (ev_pure (.int (bI (sv N i))) n F) := by
  have key : ∀ (d k : Nat), k + d = i + 1 → Ev l X M_Mo_isVowel 0 0 5 [(0, .long (lN N)), (2, .int (nI i)), (3, .int (if k = 0 then 0 else bI (sv N (k - 1)))), (4, .int (nI k))] [] n F (ev_mq X (ev_pure (.int (bI (sv N i))) n F)) := by
    intro d
    induction d with
    | zero =>
      intro k hk
      have e : k = i + 1 := by omega
      subst e
      have hlt : nI i < nI (i + 1) := (nI_ltI (by omega) (by omega)).mpr (by omega)
      rw [if_neg (by omega)]
      refine s_Mo_isVowel_5 (v14 := 0) (fun _ => ⟨rfl, rfl, rfl⟩) (fun _ => bI_nar _) ?_ ?_ ?_ ?_ ?_ ?_ ?_ ?_ ?_ ?_
      all_goals exact fun c => absurd hlt c
    | succ d ih =>
      intro k hk
      have hd := sd_lt N k
      have e1 : ∀ c : Nat, c < 2 ^ 31 → (nI (sd N k) = nI c ↔ sd N k = c) := fun c hc => nI_eq (by omega) hc
      have hge : ¬ nI i < nI k := fun z => by
        have := (nI_ltI (by omega) (by omega)).mp z
        omega
      have st : ∀ b : Int32, b = bI (sv N k) → Ev l X M_Mo_isVowel 0 0 5 [(0, .long (lN N)), (2, .int (nI i)), (3, .int b), (4, .int (nI k + 1))] [] n F (ev_mq X (ev_pure (.int (bI (sv N i))) n F)) := by
        intro b hb
        have h2 := ih (k + 1) (by omega)
        rw [if_neg (by omega)] at h2
        rw [hb, nI_1]
        exact h2
      refine s_Mo_isVowel_5 (v14 := nI (sd N k)) (fun c => absurd c hge) (fun c => absurd c hge) (fun _ => c_Mo_letter h (by omega)) (fun _ a => st 1 ?_) (fun _ _ a => st 1 ?_) (fun _ _ _ a => st 1 ?_) (fun _ _ _ _ a => st 1 ?_) (fun _ _ _ _ _ a => st 1 ?_) (fun _ a1 a2 a3 a4 a5 a6 => st 0 ?_) (fun _ a1 a2 a3 a4 a5 a6 a7 => st 0 ?_) (fun _ a1 a2 a3 a4 a5 a6 a7 a8 => st 0 ?_) (fun _ a1 a2 a3 a4 a5 a6 a7 a8 => st 1 ?_)
      · rw [sv_yes ((e1 1 (by decide)).mp a ▸ rfl)]; rfl
      · rw [sv_yes ((e1 5 (by decide)).mp a ▸ rfl)]; rfl
      · rw [sv_yes ((e1 9 (by decide)).mp a ▸ rfl)]; rfl
      · rw [sv_yes ((e1 15 (by decide)).mp a ▸ rfl)]; rfl
      · rw [sv_yes ((e1 21 (by decide)).mp a ▸ rfl)]; rfl
      all_goals
        have b1 : ¬ sd N k = 1 := fun z => a1 ((e1 1 (by decide)).mpr z)
        have b2 : ¬ sd N k = 5 := fun z => a2 ((e1 5 (by decide)).mpr z)
        have b3 : ¬ sd N k = 9 := fun z => a3 ((e1 9 (by decide)).mpr z)
        have b4 : ¬ sd N k = 15 := fun z => a4 ((e1 15 (by decide)).mpr z)
        have b5 : ¬ sd N k = 21 := fun z => a5 ((e1 21 (by decide)).mpr z)
        have hsa : sa (sd N k) = false := by simp [sa, b1, b2, b3, b4, b5]
      · have b6 : ¬ sd N k = 25 := fun z => a6 ((e1 25 (by decide)).mpr z)
        cases k <;> simp [sv, hsa, b6, bI]
      · have hk0 : k = 0 := by
          have := (nI_leI (a := k) (b := 0) (by omega) (by decide)).mp a7
          omega
        subst hk0
        simp [sv, hsa, bI]
      · have b6 : sd N k = 25 := (e1 25 (by decide)).mp a6
        cases k with
        | zero => exact absurd (show nI 0 ≤ 0 from by decide) a7
        | succ k =>
          rw [if_neg (by omega)] at a8
          have hv : sv N k = true := by
            cases hs : sv N k with
            | true => rfl
            | false => exact absurd (by simp [hs, bI]) a8
          simp [sv, b6, hv, bI, sa]
      · have b6 : sd N k = 25 := (e1 25 (by decide)).mp a6
        cases k with
        | zero => exact absurd (show nI 0 ≤ 0 from by decide) a7
        | succ k =>
          rw [if_neg (by omega)] at a8
          have hv : sv N k = false := by
            cases hs : sv N k with
            | false => rfl
            | true => exact absurd a8 (by simp [hs, bI])
          simp [sv, b6, hv, bI, sa]
  exact Cal.of (by decide) (Nat.le_of_ble_eq_true rfl) (s_Mo_isVowel_0 (key (i + 1) 0 (by omega)))
end MoWords
