/-! stems as numbers: the functions, and that they keep words words; pure -/
def T4 (a b c d : Nat) : Nat := a + 32 * b + 1024 * c + 32768 * d
def st_plural (N : Nat) : Nat := if en N (T4 19 19 5 19) || en N (T4 9 5 19 0) then N % 32 ^ (sl N - 2) else if en N (T4 19 0 0 0) && !en N (T4 19 19 0 0) then N % 32 ^ (sl N - 1) else N
def st_short (N : Nat) : Bool := decide (3 ≤ sl N) && (!sv N (sl N - 3) && (sv N (sl N - 2) && (!sv N (sl N - 1) && (decide (sd N (sl N - 1) < 23) || sd N (sl N - 1) == 26))))
def st_twice (N : Nat) : Bool := decide (1 < sl N) && (sd N (sl N - 1) == sd N (sl N - 2) && (!sv N (sl N - 1) && !sv N (sl N - 2)))
def st_lsz (c : Nat) : Bool := c == 12 || (c == 19 || c == 26)
def st_mend (N : Nat) : Nat := if en N (T4 1 20 0 0) || (en N (T4 2 12 0 0) || en N (T4 9 26 0 0)) then N + 5 * 32 ^ sl N else if st_twice N && !st_lsz (sd N (sl N - 1)) then N % 32 ^ (sl N - 1) else if sm N (sl N) == 1 && st_short N then N + 5 * 32 ^ sl N else N
def st_past (N : Nat) : Nat := if en N (T4 5 5 4 0) then (if 0 < sm N (sl N - 3) then N % 32 ^ (sl N - 1) else N) else if en N (T4 5 4 0 0) && sh N (sl N - 2) then st_mend (N % 32 ^ (sl N - 2)) else if en N (T4 9 14 7 0) && sh N (sl N - 3) then st_mend (N % 32 ^ (sl N - 3)) else N
def st_fin (N : Nat) : Nat := if sd N (sl N - 1) == 25 && sh N (sl N - 1) then N % 32 ^ (sl N - 1) + 9 * 32 ^ (sl N - 1) else N
def st_stem (N : Nat) : Nat := if sl N < 3 then N else st_fin (st_past (st_plural N))
/-- a number whose digits aren't 0 -/
def gd (N : Nat) : Prop := 0 < N ∧ N < 32 ^ 12 ∧ ∀ i, i < sl N → sd N i ≠ 0
theorem gw.gd {N : Nat} (h : gw N) : gd N := ⟨h.1, h.2.1, fun i hi => by have := (h.2.2 i hi).1; omega⟩
theorem gd_cut {N k : Nat} (h : gd N) (h1 : 1 ≤ k) (hk : k ≤ sl N) : gd (N % 32 ^ k) ∧ sl (N % 32 ^ k) = k := by
  have hl := sl_le N
  have e : sl (N % 32 ^ k) = k := sl_mod h.2.1 (by omega) (Or.inr (h.2.2 (k - 1) (by omega)))
  refine ⟨⟨?_, Nat.lt_of_le_of_lt (Nat.mod_le _ _) h.2.1, ?_⟩, e⟩
  · rcases Nat.eq_zero_or_pos (N % 32 ^ k) with z | z
    · rw [z] at e
      have : sl 0 = 0 := rfl
      omega
    · exact z
  · intro i hi
    rw [e] at hi
    rw [sd_mod hi]
    exact h.2.2 i (by omega)
theorem gd_add {N c : Nat} (h : gd N) (hl : sl N < 12) (hc : c < 32) (h0 : 0 < c) : gd (N + c * 32 ^ sl N) ∧ sl (N + c * 32 ^ sl N) = sl N + 1 := by
  have h1 := sl_lt h.2.1
  have e : sl (N + c * 32 ^ sl N) = sl N + 1 := sl_add h1 hl hc h0
  have hlt : N + c * 32 ^ sl N < 32 ^ (sl N + 1) := by
    rw [Nat.pow_succ]
    have := Nat.mul_le_mul_right (32 ^ sl N) (show c + 1 ≤ 32 by omega)
    rw [Nat.add_mul] at this
    omega
  refine ⟨⟨by have := h.1; omega, Nat.lt_of_lt_of_le hlt (pow32_le (by omega)), ?_⟩, e⟩
  intro i hi
  rw [e] at hi
  by_cases g : i < sl N
  · rw [sd_add_lt g]
    exact h.2.2 i g
  · rw [show i = sl N by omega, sd_add_eq h1 hc]
    omega
theorem gd_pos {N : Nat} (h : gd N) : 0 < sl N := sl_pos (by have := h.1; omega)
theorem en_le {N E : Nat} (h : en N E = true) : sl E ≤ sl N := (of_decide_eq_true h).1
theorem sh_0 {N k : Nat} (h : sh N k = true) : 0 < k := by
  cases k with
  | zero => simp [sh] at h
  | succ k => omega
theorem gd_plural {N : Nat} (h : gd N) (h3 : 3 ≤ sl N) : gd (st_plural N) := by
  unfold st_plural
  split
  · exact (gd_cut h (by omega) (by omega)).1
  · split
    · exact (gd_cut h (by omega) (by omega)).1
    · exact h
theorem gd_mend {N : Nat} (h : gd N) (hl : sl N < 12) : gd (st_mend N) := by
  unfold st_mend
  split
  · exact (gd_add h hl (by decide) (by decide)).1
  · split
    · rename_i hc
      have h1 : st_twice N = true := by
        cases hx : st_twice N with
        | true => rfl
        | false => rw [hx] at hc; simp at hc
      have : 1 < sl N := by
        unfold st_twice at h1
        simp only [Bool.and_eq_true, decide_eq_true_eq] at h1
        exact h1.1
      exact (gd_cut h (by omega) (by omega)).1
    · split
      · exact (gd_add h hl (by decide) (by decide)).1
      · exact h
theorem gd_past {N : Nat} (h : gd N) : gd (st_past N) := by
  have hl := sl_le N
  unfold st_past
  split
  · rename_i hc
    have := en_le hc
    have e3 : sl (T4 5 5 4 0) = 3 := by decide +kernel
    split
    · exact (gd_cut h (by omega) (by omega)).1
    · exact h
  · split
    · rename_i hc
      simp only [Bool.and_eq_true] at hc
      have := sh_0 hc.2
      obtain ⟨a, b⟩ := gd_cut h (k := sl N - 2) (by omega) (by omega)
      exact gd_mend a (by omega)
    · split
      · rename_i hc
        simp only [Bool.and_eq_true] at hc
        have := sh_0 hc.2
        obtain ⟨a, b⟩ := gd_cut h (k := sl N - 3) (by omega) (by omega)
        exact gd_mend a (by omega)
      · exact h
