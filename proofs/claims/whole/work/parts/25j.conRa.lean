/-! the ranking: holders and rarity -/
theorem n_shd : ∀ i, i < 32 → ((nI i &&& 31).toBitVec.smod 32).toNat = i := by decide +kernel
theorem n_div : ∀ f, f < 13 → 1 ≤ f → ∀ N, N < 13 → (nI N + 1) * 256 / nI f = nI ((N + 1) * 256 / f) := by decide +kernel
/-- the rarity: f of N documents hold a term -/
def rarX (N f : Nat) : Nat := (N + 1) * 256 / f
def rar (N f : Nat) : Nat := if f = 0 then 0 else 16 * Nat.log2 (rarX N f) + rarX N f * 16 / 2 ^ Nat.log2 (rarX N f) - 16
section ConRa
variable {l : Launch} {X : ev_X} {n : Nat} {F : ev_H} {ow : Nat → Nat}
theorem c_Ra_rarity {N f : Nat} (hN : N ≤ 12) (hf : f ≤ 12) : Cal l X M_Ra_rarity 0 0 [.int (nI N), .int (nI f)] n F (ev_pure (.int (nI (rar N f))) n F) := by
  refine Cal.of (by decide) (Nat.le_of_ble_eq_true rfl) (s_Ra_rarity_0 (fun a => ?_) (fun a => ?_) (fun a => ⟨?_, rfl, rfl⟩))
  · have : 0 < f := (nI_ltI (a := 0) (by decide) (by omega)).mp a
    intro z
    have := (nI_eq (b := 0) (by omega) (by decide)).mp z
    omega
  · have hf0 : 0 < f := (nI_ltI (a := 0) (by decide) (by omega)).mp a
    rw [n_div f (by omega) hf0 N (by omega)]
    have hx1 : 1 ≤ rarX N f := (Nat.le_div_iff_mul_le hf0).mpr (by omega)
    have hx2 : rarX N f ≤ 3328 := Nat.le_trans (Nat.div_le_self _ _) (by omega)
    have hlo := Nat.log2_self_le (show rarX N f ≠ 0 by omega)
    have hhi := Nat.lt_log2_self (n := rarX N f)
    have hl12 : Nat.log2 (rarX N f) < 12 := Nat.lt_of_not_le fun z => by
      have := Nat.pow_le_pow_right (show 0 < 2 by decide) z
      have e : 2 ^ 12 = 4096 := by decide
      omega
    have er : rar N f = 16 * Nat.log2 (rarX N f) + rarX N f * 16 / 2 ^ Nat.log2 (rarX N f) - 16 := if_neg (by omega)
    have key : ∀ (d e : Nat), e + d = Nat.log2 (rarX N f) → Ev l X M_Ra_rarity 0 0 18 [(0, .int (nI N)), (1, .int (nI f)), (2, .int (nI (rarX N f))), (3, .int (nI e))] [] n F (ev_mq X (ev_pure (.int (nI (rar N f))) n F)) := by
      intro d
      induction d with
      | zero =>
        intro e he
        have e1 : e = Nat.log2 (rarX N f) := by omega
        have fin : (16 * nI e + (nI (rarX N f) * 16) >>> (nI e &&& 31)) - 16 = nI (rar N f) := by
          have h16 : 16 ≤ rarX N f * 16 / 2 ^ e := (Nat.le_div_iff_mul_le (Nat.pow_pos (by decide))).mpr (by rw [e1]; omega)
          rw [show (16 : Int32) = nI 16 from rfl, pk_mul, pk_mul, pk_shrN (by omega) _ e (n_shd e (by omega)), nI_add, pk_sub (by omega), er, ← e1]
        refine s_Ra_rarity_18 (fun _ => ⟨by rw [fin], rfl, rfl⟩) (fun _ _ => ⟨by rw [fin], rfl, rfl⟩) (fun _ b => ?_)
        rw [nI_1, pk_shrN (by omega) _ (e + 1) (n_shd (e + 1) (by omega)), e1, Nat.div_eq_of_lt hhi] at b
        exact absurd (by decide) b
      | succ d ih =>
        intro e he
        have hp := Nat.pow_le_pow_right (show 0 < 2 by decide) (show e + 1 ≤ Nat.log2 (rarX N f) by omega)
        have h1 : 1 ≤ rarX N f / 2 ^ (e + 1) := (Nat.le_div_iff_mul_le (Nat.pow_pos (by decide))).mpr (by omega)
        have h2 : rarX N f / 2 ^ (e + 1) ≤ rarX N f := Nat.div_le_self _ _
        refine s_Ra_rarity_18 (fun b => ?_) (fun _ b => ?_) (fun _ _ => ?_)
        · have := (nI_leI (a := 30) (by decide) (by omega)).mp b
          omega
        · rw [nI_1, pk_shrN (by omega) _ (e + 1) (n_shd (e + 1) (by omega))] at b
          have := (nI_leI (b := 0) (by omega) (by decide)).mp b
          omega
        · rw [nI_1]
          exact ih (e + 1) (by omega)
    exact key (Nat.log2 (rarX N f)) 0 (by omega)
  · have : f = 0 := Nat.eq_zero_of_not_pos fun z => a ((nI_ltI (a := 0) (by decide) (by omega)).mpr z)
    subst this
    rfl
/-- how many of the documents hold t -/
def hol (ds : List Doc) (t : Int64) (k : Nat) : Nat := cn (fun i => decide (0 < dT (dAt ds i).2 t)) k
theorem c_Ra_holders {L : Nat} {t : Int64} {ds : List Doc} (h : dlI X F ow L ds) : Cal l X M_Ra_holders 0 0 [.long t, .ref L] n F (ev_pure (.int (nI (hol ds t ds.length))) n F) := by
  obtain ⟨e, mc, c1⟩ := dl_cell h
  have hl := dl_len h
  have key : ∀ (d k : Nat), k + d = ds.length → Ev l X M_Ra_holders 0 0 5 [(0, .long t), (2, .ref L), (3, .int (nI (hol ds t k))), (4, .int (nI k))] [] n F (ev_mq X (ev_pure (.int (nI (hol ds t ds.length))) n F)) := by
    intro d
    induction d with
    | zero =>
      intro k hk
      have e1 : k = ds.length := by omega
      subst e1
      have hle : nI ds.length ≤ nI ds.length := (nI_leI (by omega) (by omega)).mpr (Nat.le_refl _)
      refine s_Ra_holders_5 (v17 := 0) (iv17_id := 0) (v17_terms := 0) (v24 := 0) c1 (dl_size h) (fun _ => ⟨rfl, rfl, rfl⟩) ?_ ?_ ?_ ?_ ?_
      all_goals exact fun c => absurd hle c
    | succ d ih =>
      intro k hk
      have hgt : ¬ nI ds.length ≤ nI k := i_ge (by omega) (by omega) (by omega)
      obtain ⟨v, k1, k2⟩ := dl_get (l := l) (n := n) h (show k < ds.length by omega)
      have hi := ih (k + 1) (by omega)
      have k3 := k2.i
      obtain ⟨tt, f, d1, d2, d3, d4, d5, d6, d7⟩ := k2
      have hT := dT_le (dAt ds k).2 t
      refine s_Ra_holders_5 (v17 := v) (v24 := nI (dT (dAt ds k).2 t)) c1 (dl_size h) (fun c => absurd c hgt) (fun _ => k1) (fun _ => d1) (fun _ => c_D_timesOf k3 (by omega)) (fun _ a => ?_) (fun _ a => ?_)
      · have : ¬ 0 < dT (dAt ds k).2 t := by
          have := (nI_leI (b := 0) (by omega) (by decide)).mp a
          omega
        rw [nI_1]
        unfold hol at hi ⊢
        rw [cn_n (by simp; omega)] at hi
        exact hi
      · have : 0 < dT (dAt ds k).2 t := Nat.pos_of_ne_zero fun z => a ((nI_leI (b := 0) (by omega) (by decide)).mpr (by omega))
        rw [nI_1, nI_1]
        unfold hol at hi ⊢
        rw [cn_y (by simp; omega)] at hi
        exact hi
  exact Cal.of (by decide) (Nat.le_of_ble_eq_true rfl) (s_Ra_holders_0 (key ds.length 0 (by omega)))
end ConRa
