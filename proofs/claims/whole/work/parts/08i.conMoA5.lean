/-! what is a word: one function for class and reference -/
theorem pf_shr3 {a d : Nat} {D : Int64} (hD : (D.toBitVec.smod 64).toNat = d) (h : a < 2 ^ 63) : lN a >>> D = lN (a / 2 ^ d) := by
  have hd : a / 2 ^ d ≤ a := Nat.div_le_self _ _
  apply Int64.toInt_inj.mp
  have e : (lN a >>> D).toInt = (lN a).toInt >>> d := by
    rw [← hD]
    exact BitVec.toInt_sshiftRight ..
  rw [e, Int.shiftRight_eq_div_pow, pf_lI h, pf_lI (by omega)]
  rfl
/-- the digits below k are letters -/
def okd (N : Nat) : Nat → Bool
  | 0 => true
  | k + 1 => okd N k && (decide (1 ≤ sd N k) && decide (sd N k ≤ 26))
theorem okd_iff {N : Nat} : ∀ {k : Nat}, okd N k = true ↔ ∀ i, i < k → 1 ≤ sd N i ∧ sd N i ≤ 26
  | 0 => by simp [okd]
  | k + 1 => by
    unfold okd
    simp only [Bool.and_eq_true, decide_eq_true_eq, okd_iff (k := k)]
    constructor
    · intro h i hi
      by_cases e : i = k
      · subst e; exact h.2
      · exact h.1 i (by omega)
    · intro h
      exact ⟨fun i hi => h i (by omega), h k (by omega)⟩
def isw (w : Int64) : Bool := decide (0 < w) && (decide (w.toBitVec.toNat < 32 ^ 12) && okd w.toBitVec.toNat (sl w.toBitVec.toNat))
theorem isw_of {w : Int64} (h : isw w = true) : ∃ N, w = lN N ∧ gw N := by
  unfold isw at h
  simp only [Bool.and_eq_true, decide_eq_true_eq] at h
  obtain ⟨h1, h2, h3⟩ := h
  have h0 : ¬ w < 0 := fun z => by
    have := Int64.lt_iff_toInt_lt.mp h1
    have := Int64.lt_iff_toInt_lt.mp z
    omega
  obtain ⟨N, hN, rfl⟩ := pk_lOf h0
  have e : (lN N).toBitVec.toNat = N := wb_tn (by omega)
  rw [e] at h2 h3
  have hp : 0 < N := (pk_lLT (a := 0) (by decide) hN).mp h1
  exact ⟨N, rfl, hp, h2, okd_iff.mp h3⟩
theorem isw_N {N : Nat} (h0 : 0 < N) (h : N < 2 ^ 63) : isw (lN N) = (decide (N < 32 ^ 12) && okd N (sl N)) := by
  have e : (lN N).toBitVec.toNat = N := wb_tn (by omega)
  have h1 : (0 : Int64) < lN N := (pk_lLT (a := 0) (by decide) h).mpr h0
  unfold isw
  rw [e]
  simp [h1]
theorem isw_le {w : Int64} (h : ¬ 0 < w) : isw w = false := by
  unfold isw
  simp [h]
section MoWords
variable {l : Launch} {X : ev_X} {n : Nat} {F : ev_H}
theorem c_Mo_isWord (w : Int64) : Cal l X M_Mo_isWord 0 0 [.long w] n F (ev_pure (.int (bI (isw w))) n F) := by
  refine Cal.of (by decide) (Nat.le_of_ble_eq_true rfl) (s_Mo_isWord_0 (fun a => ⟨?_, rfl, rfl⟩) (fun a b => ?_) (fun a b => ⟨?_, rfl, rfl⟩))
  · have : ¬ 0 < w := fun z => by
      have h1 := Int64.le_iff_toInt_le.mp ((lg_cmp_le w 0).mp a)
      have h2 := Int64.lt_iff_toInt_lt.mp z
      omega
    rw [isw_le this]
    rfl
  · have hw : ¬ w ≤ 0 := fun z => a ((lg_cmp_le w 0).mpr z)
    have h0 : ¬ w < 0 := fun z => hw (Int64.le_of_lt z)
    obtain ⟨N, hN, rfl⟩ := pk_lOf h0
    have hp : 0 < N := Nat.pos_of_ne_zero fun z => hw (by rw [z]; decide)
    rw [lg_cmp_eq, pf_shr3 (d := 60) (by decide) hN, show (0 : Int64) = lN 0 from rfl, pk_lEQ (Nat.lt_of_le_of_lt (Nat.div_le_self _ _) hN) (by decide)] at b
    have hlt : N < 32 ^ 12 := by
      have e : (2 : Nat) ^ 60 = 32 ^ 12 := by decide
      rw [e] at b
      rcases Nat.lt_or_ge N (32 ^ 12) with g | g
      · exact g
      · have := Nat.div_pos g (pow32_pos 12)
        omega
    have h62 : N < 2 ^ 62 := Nat.lt_of_lt_of_le hlt (by decide)
    have hsl := sl_le N
    have hr : isw (lN N) = okd N (sl N) := by
      rw [isw_N hp hN]
      simp [hlt]
    rw [hr]
    have key : ∀ (d k : Nat), k + d = sl N → Ev l X M_Mo_isWord 0 0 21 [(0, .long (lN N)), (2, .int (bI (okd N k))), (3, .int (nI k))] [] n F (ev_mq X (ev_pure (.int (bI (okd N (sl N)))) n F)) := by
      intro d
      induction d with
      | zero =>
        intro k hk
        have e1 : k = sl N := by omega
        have hle : nI (sl N) ≤ nI k := (nI_leI (by omega) (by omega)).mpr (by omega)
        refine s_Mo_isWord_21 (v23 := nI (sl N)) (v35 := 0) (v44 := 0) (c_Mo_length hlt) (fun _ => ?_) (fun _ => bI_nar _) ?_ ?_ ?_ ?_ ?_ ?_
        · rw [e1]; exact ⟨rfl, rfl, rfl⟩
        all_goals exact fun c => absurd hle c
      | succ d ih =>
        intro k hk
        have hgt : ¬ nI (sl N) ≤ nI k := fun z => by
          have := (nI_leI (by omega) (by omega)).mp z
          omega
        have hd := sd_lt N k
        have st : ∀ b : Int32, b = bI (okd N (k + 1)) → Ev l X M_Mo_isWord 0 0 21 [(0, .long (lN N)), (2, .int b), (3, .int (nI k + 1))] [] n F (ev_mq X (ev_pure (.int (bI (okd N (sl N)))) n F)) := by
          intro b hb
          rw [hb, nI_1]
          exact ih (k + 1) (by omega)
        refine s_Mo_isWord_21 (v23 := nI (sl N)) (v35 := nI (sd N k)) (v44 := nI (sd N k)) (c_Mo_length hlt) (fun c => absurd c hgt) (fun c => absurd c hgt) (fun _ a => st _ ?_) (fun _ _ => c_Mo_letter h62 (by omega)) (fun _ _ a => st _ ?_) (fun _ _ _ => c_Mo_letter h62 (by omega)) (fun _ _ _ a => st _ ?_) (fun _ a b c => st _ ?_)
        · simp [okd, bI_1.mp a, bI]
        · have : ¬ 1 ≤ sd N k := by
            have := (nI_ltI (b := 1) (by omega) (by decide)).mp a
            omega
          simp [okd, this, bI]
        · have : ¬ sd N k ≤ 26 := by
            have := (nI_ltI (a := 26) (by decide) (by omega)).mp a
            omega
          simp [okd, this, bI]
        · have h1 : 1 ≤ sd N k := Nat.le_of_not_lt fun z => b ((nI_ltI (b := 1) (by omega) (by decide)).mpr z)
          have h2 : sd N k ≤ 26 := Nat.le_of_not_lt fun z => c ((nI_ltI (a := 26) (by decide) (by omega)).mpr z)
          simp [okd, bI_n0 a, h1, h2, bI]
    exact key (sl N) 0 (by omega)
  · have hw : ¬ w ≤ 0 := fun z => a ((lg_cmp_le w 0).mpr z)
    have h0 : ¬ w < 0 := fun z => hw (Int64.le_of_lt z)
    obtain ⟨N, hN, rfl⟩ := pk_lOf h0
    have hp : 0 < N := Nat.pos_of_ne_zero fun z => hw (by rw [z]; decide)
    rw [lg_cmp_eq, pf_shr3 (d := 60) (by decide) hN, show (0 : Int64) = lN 0 from rfl, pk_lEQ (Nat.lt_of_le_of_lt (Nat.div_le_self _ _) hN) (by decide)] at b
    have hge : ¬ N < 32 ^ 12 := fun z => b (Nat.div_eq_of_lt (by rw [show (2 : Nat) ^ 60 = 32 ^ 12 from by decide]; exact z))
    rw [isw_N hp hN]
    simp [hge, bI]
end MoWords
