/-! words as numbers: digits to the base 32, the lowest first; pure -/
def sd (N i : Nat) : Nat := N / 32 ^ i % 32
def slF : Nat → Nat → Nat
  | 0, _ => 0
  | k + 1, N => if N = 0 then 0 else slF k (N / 32) + 1
/-- how many letters -/
def sl (N : Nat) : Nat := slF 12 N
theorem slF_lt : ∀ (k N : Nat), N < 32 ^ k → N < 32 ^ slF k N
  | 0, N, h => h
  | k + 1, N, h => by
    unfold slF
    by_cases e : N = 0
    · rw [if_pos e, e]; decide
    · rw [if_neg e]
      have h1 : N / 32 < 32 ^ k := by
        rw [Nat.pow_succ] at h
        exact Nat.div_lt_of_lt_mul (by rw [Nat.mul_comm]; exact h)
      have h2 := slF_lt k (N / 32) h1
      rw [Nat.pow_succ]
      have h3 : N / 32 + 1 ≤ 32 ^ slF k (N / 32) := h2
      have h4 : N < (N / 32 + 1) * 32 := by omega
      exact Nat.lt_of_lt_of_le h4 (Nat.mul_le_mul_right _ h3)
theorem slF_ge : ∀ (k N : Nat), N ≠ 0 → N < 32 ^ k → 32 ^ (slF k N - 1) ≤ N
  | 0, N, h, h2 => by simp at h2; exact absurd h2 h
  | k + 1, N, h, h2 => by
    unfold slF
    rw [if_neg h]
    by_cases e : N / 32 = 0
    · have : slF k (N / 32) = 0 := by
        rw [e]; cases k <;> simp [slF]
      rw [this]
      simp
      omega
    · have h1 : N / 32 < 32 ^ k := by
        rw [Nat.pow_succ] at h2
        exact Nat.div_lt_of_lt_mul (by rw [Nat.mul_comm]; exact h2)
      have h3 := slF_ge k (N / 32) e h1
      have h4 : slF k (N / 32) ≠ 0 := by
        intro e2
        have h5 := slF_lt k (N / 32) h1
        rw [e2] at h5
        simp at h5
        omega
      have h6 : 32 ^ (slF k (N / 32) + 1 - 1) = 32 ^ (slF k (N / 32) - 1) * 32 := by
        rw [← Nat.pow_succ]
        congr 1
        omega
      rw [h6]
      have h7 := Nat.mul_le_mul_right 32 h3
      omega
theorem slF_le : ∀ (k N : Nat), slF k N ≤ k
  | 0, N => Nat.le_refl _
  | k + 1, N => by
    unfold slF
    by_cases e : N = 0
    · rw [if_pos e]; omega
    · rw [if_neg e]
      have := slF_le k (N / 32)
      omega
theorem sl_lt {N : Nat} (h : N < 32 ^ 12) : N < 32 ^ sl N := slF_lt 12 N h
theorem sl_ge {N : Nat} (h0 : N ≠ 0) (h : N < 32 ^ 12) : 32 ^ (sl N - 1) ≤ N := slF_ge 12 N h0 h
theorem sl_le (N : Nat) : sl N ≤ 12 := slF_le 12 N
theorem sl_pos {N : Nat} (h0 : N ≠ 0) : 0 < sl N := by
  unfold sl slF
  rw [if_neg h0]
  omega
theorem pow32_le {a b : Nat} (h : a ≤ b) : 32 ^ a ≤ 32 ^ b := Nat.pow_le_pow_right (by decide) h
theorem pow32_lt {a b : Nat} (h : a < b) : 32 ^ a < 32 ^ b := Nat.pow_lt_pow_right (by decide) h
theorem pow32_pos (a : Nat) : 0 < 32 ^ a := Nat.pow_pos (by decide)
/-- the number of letters, by its bounds -/
theorem sl_uniq {N k : Nat} (h : N < 32 ^ 12) (h1 : N < 32 ^ k) (h2 : k = 0 ∨ 32 ^ (k - 1) ≤ N) : sl N = k := by
  by_cases e : N = 0
  · subst e
    rcases h2 with rfl | h2
    · rfl
    · have := pow32_pos (k - 1)
      omega
  · have a := sl_lt h
    have b := sl_ge e h
    have c := sl_pos e
    rcases Nat.lt_trichotomy (sl N) k with g | g | g
    · rcases h2 with rfl | h2
      · omega
      · have := pow32_le (show sl N ≤ k - 1 by omega)
        omega
    · exact g
    · have := pow32_le (show k ≤ sl N - 1 by omega)
      omega
theorem sd_lt (N i : Nat) : sd N i < 32 := Nat.mod_lt _ (by decide)
/-- cut to k letters -/
theorem sd_mod {N k i : Nat} (h : i < k) : sd (N % 32 ^ k) i = sd N i := by
  unfold sd
  obtain ⟨d, rfl⟩ : ∃ d, k = i + (d + 1) := ⟨k - i - 1, by omega⟩
  rw [Nat.pow_add, Nat.mod_mul_right_div_self, Nat.pow_succ, Nat.mul_comm (32 ^ d) 32, Nat.mod_mul_right_mod]
theorem sd_shr (N a i : Nat) : sd (N / 32 ^ a) i = sd N (a + i) := by
  unfold sd
  rw [Nat.div_div_eq_div_mul, ← Nat.pow_add]
theorem sl_mod {N k : Nat} (h : N < 32 ^ 12) (hk : k ≤ 12) (hd : k = 0 ∨ sd N (k - 1) ≠ 0) : sl (N % 32 ^ k) = k := by
  have h1 : N % 32 ^ k < 32 ^ k := Nat.mod_lt _ (pow32_pos k)
  refine sl_uniq (Nat.lt_of_lt_of_le h1 (pow32_le hk)) h1 ?_
  rcases hd with rfl | hd
  · exact Or.inl rfl
  · by_cases e : k = 0
    · exact Or.inl e
    · refine Or.inr (Nat.le_of_not_lt fun hlt => hd ?_)
      have h2 : sd (N % 32 ^ k) (k - 1) = sd N (k - 1) := sd_mod (by omega)
      rw [← h2]
      unfold sd
      rw [Nat.div_eq_of_lt hlt]
/-- a letter behind -/
theorem sd_add_lt {N k c i : Nat} (hi : i < k) : sd (N + c * 32 ^ k) i = sd N i := by
  have e : (N + c * 32 ^ k) % 32 ^ k = N % 32 ^ k := by rw [Nat.mul_comm, Nat.add_mul_mod_self_left]
  rw [← sd_mod (N := N + c * 32 ^ k) hi, e, sd_mod hi]
theorem sd_add_eq {N k c : Nat} (h : N < 32 ^ k) (hc : c < 32) : sd (N + c * 32 ^ k) k = c := by
  unfold sd
  rw [Nat.mul_comm, Nat.add_mul_div_left _ _ (pow32_pos k), Nat.div_eq_of_lt h]
  simp
  omega
theorem sl_add {N k c : Nat} (h : N < 32 ^ k) (hk : k < 12) (hc : c < 32) (h0 : 0 < c) : sl (N + c * 32 ^ k) = k + 1 := by
  have h1 : N + c * 32 ^ k < 32 ^ (k + 1) := by
    rw [Nat.pow_succ]
    have := Nat.mul_le_mul_right (32 ^ k) (show c + 1 ≤ 32 by omega)
    rw [Nat.add_mul] at this
    omega
  refine sl_uniq (Nat.lt_of_lt_of_le h1 (pow32_le (by omega))) h1 (Or.inr ?_)
  have := Nat.mul_le_mul_right (32 ^ k) h0
  simp at this ⊢
  omega
/-- a, e, i, o, u -/
def sa (c : Nat) : Bool := c == 1 || c == 5 || c == 9 || c == 15 || c == 21
/-- is letter i a vowel -/
def sv (N : Nat) : Nat → Bool
  | 0 => sa (sd N 0)
  | k + 1 => sa (sd N (k + 1)) || (sd N (k + 1) == 25 && !sv N k)
theorem sv_congr {N K i : Nat} (h : ∀ j, j ≤ i → sd N j = sd K j) : sv N i = sv K i := by
  induction i with
  | zero => simp [sv, h 0 (Nat.le_refl _)]
  | succ k ih => simp [sv, h (k + 1) (Nat.le_refl _), ih (fun j hj => h j (by omega))]
theorem sv_mod {N k i : Nat} (h : i < k) : sv (N % 32 ^ k) i = sv N i := sv_congr (fun j hj => sd_mod (by omega))
theorem sv_add {N k c i : Nat} (h : i < k) : sv (N + c * 32 ^ k) i = sv N i := sv_congr (fun j hj => sd_add_lt (by omega))
/-- how often a vowel stands before a consonant, at places below k -/
def smc (N : Nat) : Nat → Nat
  | 0 => 0
  | k + 1 => smc N k + if sv N k && !sv N (k + 1) then 1 else 0
/-- the measure of the first e letters -/
def sm (N e : Nat) : Nat := smc N (e - 1)
theorem smc_le (N : Nat) : ∀ k, smc N k ≤ k
  | 0 => Nat.le_refl _
  | k + 1 => by
    have := smc_le N k
    unfold smc
    split <;> omega
/-- a vowel among the first e letters -/
def sh (N : Nat) : Nat → Bool
  | 0 => false
  | k + 1 => sh N k || sv N k
