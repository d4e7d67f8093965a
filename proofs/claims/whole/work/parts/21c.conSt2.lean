/-! the class's stemmer: its cells, and the methods that change them -/
/-- worlds that differ from a to b - 1 at most -/
def ag (F F' : ev_H) (a b : Nat) : Prop := ∀ x, x < a ∨ b ≤ x → F' x = F x
theorem ag_r (F : ev_H) (a b : Nat) : ag F F a b := fun _ _ => rfl
theorem ag_t {F G H : ev_H} {a b : Nat} (h : ag F G a b) (k : ag G H a b) : ag F H a b := fun x hx => (k x hx).trans (h x hx)
theorem ag_u {F G : ev_H} {a b k : Nat} {c : ev_C} (h : ag F G a b) (h1 : a ≤ k) (h2 : k < b) : ag F (ev_up G k c) a b := fun x hx => by
  have : x ≠ k := by omega
  simp [ev_up, this, h x hx]
theorem ag_w {F G : ev_H} {a b c d : Nat} (h : ag F G a b) (h1 : c ≤ a) (h2 : b ≤ d) : ag F G c d := fun x hx => h x (by omega)
theorem eu_y {F : ev_H} {a : Nat} {c : ev_C} : ev_up F a c a = some c := by simp [ev_up]
theorem eu_n {F : ev_H} {a b : Nat} {c : ev_C} (h : b ≠ a) : ev_up F a c b = F b := by simp [ev_up, h]
/-- the stemmer at r holds the word N in the rows lf and vf -/
def stI (F : ev_H) (r N : Nat) (lf vf : Nat → Int32) : Prop := F r = some (.inr (1, [.ref (r + 1), .ref (r + 2), .int (nI (sl N))])) ∧ F (r + 1) = some (.inl (3, 12, .inl lf)) ∧ F (r + 2) = some (.inl (2, 12, .inl vf)) ∧ (∀ i, i < sl N → lf i = nI (96 + sd N i) ∧ vf i = bI (sv N i))
def stQ (n : Nat) (F : ev_H) (r N : Nat) : Option Value → Nat → ev_H → Prop := fun v n' F' => v = none ∧ n' = n ∧ (∃ lf vf, stI F' r N lf vf) ∧ ag F F' r (r + 3)
theorem gw_cut {N k : Nat} (h : gw N) (h1 : 1 ≤ k) (hk : k ≤ sl N) : gw (N % 32 ^ k) ∧ sl (N % 32 ^ k) = k := by
  obtain ⟨a, b⟩ := gd_cut h.gd h1 hk
  refine ⟨⟨a.1, a.2.1, fun i hi => ?_⟩, b⟩
  rw [b] at hi
  rw [sd_mod hi]
  exact h.2.2 i (by omega)
theorem gw_add {N c : Nat} (h : gw N) (hl : sl N < 12) (hc : c ≤ 26) (h0 : 0 < c) : gw (N + c * 32 ^ sl N) ∧ sl (N + c * 32 ^ sl N) = sl N + 1 := by
  obtain ⟨a, b⟩ := gd_add h.gd hl (c := c) (by omega) h0
  refine ⟨⟨a.1, a.2.1, fun i hi => ?_⟩, b⟩
  rw [b] at hi
  by_cases g : i < sl N
  · rw [sd_add_lt g]
    exact h.2.2 i g
  · rw [show i = sl N by omega, sd_add_eq (sl_lt h.2.1) (by omega)]
    omega
theorem gw_plural {N : Nat} (h : gw N) (h3 : 3 ≤ sl N) : gw (st_plural N) := by
  unfold st_plural
  split
  · exact (gw_cut h (by omega) (by omega)).1
  · split
    · exact (gw_cut h (by omega) (by omega)).1
    · exact h
theorem gw_mend {N : Nat} (h : gw N) (hl : sl N < 12) : gw (st_mend N) := by
  unfold st_mend
  split
  · exact (gw_add h hl (by decide) (by decide)).1
  · split
    · rename_i hc
      have h1 : st_twice N = true := by
        cases hx : st_twice N with
        | true => rfl
        | false => rw [hx] at hc; simp at hc
      have : 1 < sl N := by
        unfold st_twice at h1
        simp only [Bool.and_eq_true, decide_eq_true_eq] at h1
        exact h1.1
      exact (gw_cut h (by omega) (by omega)).1
    · split
      · exact (gw_add h hl (by decide) (by decide)).1
      · exact h
theorem gw_past {N : Nat} (h : gw N) : gw (st_past N) := by
  have hl := sl_le N
  unfold st_past
  split
  · rename_i hc
    have := en_le hc
    have e3 : sl (T4 5 5 4 0) = 3 := by decide +kernel
    split
    · exact (gw_cut h (by omega) (by omega)).1
    · exact h
  · split
    · rename_i hc
      simp only [Bool.and_eq_true] at hc
      have := sh_0 hc.2
      obtain ⟨a, b⟩ := gw_cut h (k := sl N - 2) (by omega) (by omega)
      exact gw_mend a (by omega)
    · split
      · rename_i hc
        simp only [Bool.and_eq_true] at hc
        have := sh_0 hc.2
        obtain ⟨a, b⟩ := gw_cut h (k := sl N - 3) (by omega) (by omega)
        exact gw_mend a (by omega)
      · exact h
theorem stI_cut {F : ev_H} {r N k : Nat} {lf vf : Nat → Int32} (h : stI F r N lf vf) (hN : N < 32 ^ 12) (hs : sl (N % 32 ^ k) = k) (hk : k ≤ sl N) : stI (ev_up F r (.inr (1, [.ref (r + 1), .ref (r + 2), .int (nI k)]))) r (N % 32 ^ k) lf vf := by
  refine ⟨by rw [hs]; exact eu_y, by rw [eu_n (by omega)]; exact h.2.1, by rw [eu_n (by omega)]; exact h.2.2.1, fun i hi => ?_⟩
  rw [hs] at hi
  rw [sd_mod hi, sv_mod hi]
  exact h.2.2.2 i (by omega)
theorem stQ_cut {F : ev_H} {n r N k : Nat} {lf vf : Nat → Int32} {c : Int32} (h : stI F r N lf vf) (hN : gw N) (h1 : 1 ≤ k) (hk : k ≤ sl N) (hc : c = nI k) : stQ n F r (N % 32 ^ k) none n (ev_up F r (.inr (1, [.ref (r + 1), .ref (r + 2), .int c]))) := by
  subst hc
  exact ⟨rfl, rfl, ⟨lf, vf, stI_cut h hN.2.1 (gw_cut hN h1 hk).2 hk⟩, ag_u (ag_r _ _ _) (by omega) (by omega)⟩
theorem sv_last {N k c : Nat} (h : N < 32 ^ k) (hc : c < 32) : sv (N + c * 32 ^ k) k = (sa c || (c == 25 && (decide (0 < k) && !sv N (k - 1)))) := by
  cases k with
  | zero =>
    have e := sd_add_eq h hc
    show sa (sd (N + c * 32 ^ 0) 0) = _
    rw [e]
    simp
  | succ k =>
    have e := sd_add_eq h hc
    show (sa (sd (N + c * 32 ^ (k + 1)) (k + 1)) || (sd (N + c * 32 ^ (k + 1)) (k + 1) == 25 && !sv (N + c * 32 ^ (k + 1)) k)) = _
    rw [e, sv_add (by omega)]
    simp
theorem ch_nar : ∀ c, c < 32 → narrow .char (.int (nI (96 + c))) = .int (nI (96 + c)) := by decide +kernel
theorem ix_0 : ∀ c, c < 32 → (decide ((0 : Int32) ≤ ixo (sb 0) (nI (96 + c)).toInt8.toInt32 (ev_sln.getD 0 0) 0) = sa c) := by decide +kernel
theorem ix_11 : ∀ c, c < 32 → (decide ((0 : Int32) ≤ ixo (sb 11) (nI (96 + c)).toInt8.toInt32 (ev_sln.getD 11 0) 0) = st_lsz c) := by decide +kernel
theorem ix_12 : ∀ c, c < 27 → (decide ((0 : Int32) ≤ ixo (sb 12) (nI (96 + c)).toInt8.toInt32 (ev_sln.getD 12 0) 0) = !(decide (c < 23) || c == 26)) := by decide +kernel
theorem isS_of {X : ev_X} {i : Nat} (h : i < 14) : ev_isS X (X.2.2.2.1 (10 + i)) i := ⟨h, rfl⟩
section ConSt2
variable {l : Launch} {X : ev_X} {n : Nat} {F : ev_H} {r : Nat}
theorem e_St_append_36 {N c : Nat} {lf vf : Nat → Int32} (h : stI F r N lf vf) (hN : N < 32 ^ 12) (hl : sl N < 12) (hc : c < 32) (h0 : 0 < c) : Ev l X M_St_append 0 0 36 [(0, .ref r), (1, .int (nI (96 + c)))] [.int (bI (decide (0 < sl N) && !sv N (sl N - 1)))] n F (ev_mq X (stQ n F r (N + c * 32 ^ sl N))) := by
  have hb : sv (N + c * 32 ^ sl N) (sl N) = (sa c || (c == 25 && (decide (0 < sl N) && !sv N (sl N - 1)))) := sv_last (sl_lt hN) hc
  have hs : sl (N + c * 32 ^ sl N) = sl N + 1 := sl_add (sl_lt hN) hl hc h0
  have st : ∀ b : Int32, b = bI (sv (N + c * 32 ^ sl N) (sl N)) → Ev l X M_St_append 0 0 79 [(0, .ref r), (1, .int (nI (96 + c))), (2, .int (bI (decide (0 < sl N) && !sv N (sl N - 1))))] [.int b, .int (nI (sl N)), .ref (r + 2)] n (ev_up F (r + 1) (.inl (3, 12, .inl (upd lf (nI (sl N)).toNatClampNeg (nI (96 + c)))))) (ev_mq X (stQ n F r (N + c * 32 ^ sl N))) := by
    intro b hbb
    subst hbb
    refine s_St_append_79 (by rw [eu_n (by omega)]; exact h.2.2.1) (by rw [eu_n (by omega)]; exact h.1) (vp_in_nI (by omega) (by omega)) (bI_nar _) ⟨rfl, rfl, ⟨upd lf (sl N) (nI (96 + c)), upd vf (sl N) (bI (sv (N + c * 32 ^ sl N) (sl N))), ?_, ?_, ?_, ?_⟩, ?_⟩
    · rw [hs, nI_1]
      exact eu_y
    · rw [eu_n (by omega), eu_n (by omega), nI_clamp (by omega)]
      exact eu_y
    · rw [eu_n (by omega), nI_clamp (by omega)]
      exact eu_y
    · intro i hi
      rw [hs] at hi
      by_cases g : i < sl N
      · have : i ≠ sl N := by omega
        rw [sd_add_lt g, sv_add g]
        simp only [upd, this, if_false]
        exact h.2.2.2 i g
      · have : i = sl N := by omega
        subst this
        rw [sd_add_eq (sl_lt hN) hc]
        simp [upd]
    · exact ag_u (ag_u (ag_u (ag_r _ _ _) (by omega) (by omega)) (by omega) (by omega)) (by omega) (by omega)
  refine s_St_append_36 (v58 := ixo (sb 0) (nI (96 + c)).toInt8.toInt32 (ev_sln.getD 0 0) 0) h.1 h.2.1 (vp_in_nI (by omega) (by omega)) (ch_nar c hc) (c_Str_indexOf (isS_of (by decide)) (by omega)) (fun a => st _ ?_) (fun a b => st _ ?_) (fun a b d => st _ ?_) (fun a b d => st _ ?_)
  · have : sa c = true := by rw [← ix_0 c hc]; exact decide_eq_true a
    rw [hb, this]; rfl
  · have h1 : sa c = false := by rw [← ix_0 c hc]; exact decide_eq_false a
    have h2 : ¬ c = 25 := fun z => b (by rw [z]; rfl)
    rw [hb, h1]
    simp [h2, bI]
  · have h1 : sa c = false := by rw [← ix_0 c hc]; exact decide_eq_false a
    rw [hb, h1, bI_1.mp d]
    simp [bI]
  · have h1 : sa c = false := by rw [← ix_0 c hc]; exact decide_eq_false a
    have h2 : c = 25 := by
      have := (nI_eq (a := 96 + c) (b := 121) (by omega) (by decide)).mp b
      omega
    rw [hb, h1, bI_n0 d, h2]
    rfl
theorem c_St_append {N c : Nat} {lf vf : Nat → Int32} (h : stI F r N lf vf) (hN : N < 32 ^ 12) (hl : sl N < 12) (hc : c < 32) (h0 : 0 < c) : Cal l X M_St_append 0 0 [.ref r, .int (nI (96 + c))] n F (stQ n F r (N + c * 32 ^ sl N)) := by
  have k := fun (b : Int32) (hb : b = bI (decide (0 < sl N) && !sv N (sl N - 1))) => hb ▸ e_St_append_36 (l := l) (X := X) (n := n) h hN hl hc h0
  have lt : nI (sl N) < 12 := (nI_ltI (b := 12) (by omega) (by decide)).mpr hl
  have vl : 0 < sl N → vf (nI (sl N) - 1).toNatClampNeg = bI (sv N (sl N - 1)) := fun z => by
    rw [show nI (sl N) - 1 = nI (sl N - 1) from pk_sub (b := 1) z, nI_clamp (by omega)]
    exact (h.2.2.2 _ (by omega)).2
  have p0 : ¬ nI (sl N) ≤ 0 → 0 < sl N := fun z => Nat.pos_of_ne_zero fun e => z (by rw [e]; decide)
  refine Cal.of (by decide) (Nat.le_of_ble_eq_true rfl) (s_St_append_0 h.1 h.2.2.1 (fun _ a => k _ ?_) (fun _ a => ?_) (fun _ a b => k _ ?_) (fun _ a b => k _ ?_) (fun a => absurd lt a))
  · have : ¬ 0 < sl N := by
      have := (nI_leI (b := 0) (by omega) (by decide)).mp a
      omega
    simp [this, bI]
  · rw [show nI (sl N) - 1 = nI (sl N - 1) from pk_sub (b := 1) (p0 a)]
    exact vp_in_nI (by omega) (by decide)
  · rw [vl (p0 a)] at b
    simp [bI_n0 b, bI]
  · rw [vl (p0 a)] at b
    simp [bI_1.mp b, p0 a, bI]
theorem x_unp : ∀ d, d < 32 → ((((96 + lN d).toInt32).toUInt32 % 65536).toInt32) = nI (96 + d) := by decide +kernel
theorem c_St_unpack {N : Nat} {len : Int32} {lf vf : Nat → Int32} (hg : gw N) (h1 : F r = some (.inr (1, [.ref (r + 1), .ref (r + 2), .int len]))) (h2 : F (r + 1) = some (.inl (3, 12, .inl lf))) (h3 : F (r + 2) = some (.inl (2, 12, .inl vf))) : Cal l X M_St_unpack 0 0 [.ref r, .long (lN N)] n F (stQ n F r N) := by
  have hN := hg.2.1
  have h64 : N < 2 ^ 64 := Nat.lt_of_lt_of_le hN (by decide)
  have hl := sl_le N
  have hdv : ∀ i, N / 32 ^ i < 2 ^ 64 := fun i => Nat.lt_of_le_of_lt (Nat.div_le_self _ _) h64
  have key : ∀ (e i : Nat), i + e = sl N → ∀ G lg vg, stI G r (N % 32 ^ i) lg vg → ag F G r (r + 3) → Ev l X M_St_unpack 0 0 10 [(0, .ref r), (1, .long (lN N)), (3, .long (lN (N / 32 ^ i))), (5, .int (nI i))] [] n G (ev_mq X (stQ n F r N)) := by
    intro e
    induction e with
    | zero =>
      intro i hi G lg vg hI hA
      have e1 : i = sl N := by omega
      have z : N / 32 ^ i = 0 := Nat.div_eq_of_lt (by rw [e1]; exact sl_lt hN)
      have m : N % 32 ^ i = N := Nat.mod_eq_of_lt (by rw [e1]; exact sl_lt hN)
      rw [m] at hI
      have q : stQ n F r N none n G := ⟨rfl, rfl, ⟨lg, vg, hI⟩, hA⟩
      refine s_St_unpack_10 (bc35 := 0) (bs35 := 0) (rc35 := 0) (rs35 := 0) (Q35 := fun _ _ _ => False) hI.1 (Nat.le_refl 0) (Nat.le_refl 0) (fun _ => q) (fun _ _ => q) (fun _ c => absurd ?_ c) (fun _ c => absurd ?_ c)
      all_goals rw [z]; decide
    | succ e ih =>
      intro i hi G lg vg hI hA
      have hs : sl (N % 32 ^ i) = i := by
        by_cases e0 : i = 0
        · subst e0
          rw [show N % 32 ^ 0 = 0 by simp [Nat.mod_one]]
          rfl
        · exact (gw_cut hg (by omega) (by omega)).2
      have hgt : ¬ (12 : Int32) ≤ nI i := i_ge (a := 12) (by decide) (by omega) (by omega)
      have hnz : ¬ lg_cmp (lN (N / 32 ^ i)) 0 = 0 := fun z => by
        rw [lg_cmp_eq] at z
        have e2 := congrArg (fun x => x.toBitVec.toNat) z
        rw [wb_tn (hdv i)] at e2
        have e3 : N / 32 ^ i = 0 := e2
        have := sl_ge (by have := hg.1; omega) hN
        have p := Nat.div_pos (Nat.le_trans (pow32_le (show i ≤ sl N - 1 by omega)) this) (pow32_pos i)
        omega
      have hd := hg.2.2 i (by omega)
      have hm : N % 32 ^ i + sd N i * 32 ^ sl (N % 32 ^ i) = N % 32 ^ (i + 1) := by
        rw [hs, Nat.mod_pow_succ, Nat.mul_comm]
        rfl
      have hlt : N % 32 ^ i < 32 ^ 12 := Nat.lt_of_le_of_lt (Nat.mod_le _ _) hN
      refine s_St_unpack_10 (bc35 := 0) (bs35 := 0) (rc35 := 0) (rs35 := 0) (Q35 := stQ n G r (N % 32 ^ (i + 1))) hI.1 (Nat.le_refl 0) (Nat.le_refl 0) (fun c => absurd c hgt) (fun _ c => absurd c hnz) (fun _ _ => ?_) (fun _ _ v2 n2 F2 hq => ?_)
      · rw [w_31 (hdv i), show N / 32 ^ i % 32 = sd N i from rfl, x_unp _ (sd_lt N i), ← hm]
        exact c_St_append hI hlt (by omega) (sd_lt N i) (by omega)
      · obtain ⟨rfl, rfl, ⟨lg', vg', hI'⟩, hA'⟩ := hq
        refine s_St_unpack_38 ?_
        rw [w_5 (hdv i), w_div, nI_1]
        exact ih (i + 1) (by omega) F2 lg' vg' hI' (ag_t hA hA')
  have h0 := key (sl N) 0 (by omega) (ev_up F r (.inr (1, [.ref (r + 1), .ref (r + 2), .int 0]))) lf vf ⟨by rw [show N % 32 ^ 0 = 0 by simp [Nat.mod_one]]; exact eu_y, by rw [eu_n (by omega)]; exact h2, by rw [eu_n (by omega)]; exact h3, fun i hi => absurd hi (by rw [show N % 32 ^ 0 = 0 by simp [Nat.mod_one]]; exact Nat.not_lt_zero i)⟩ (ag_u (ag_r _ _ _) (by omega) (by omega))
  rw [show N / 32 ^ 0 = N by simp] at h0
  exact Cal.of (by decide) (Nat.le_of_ble_eq_true rfl) (s_St_unpack_0 h1 h0)
theorem x_pk : ∀ d, d < 32 → ((nI (96 + d) - 97) + 1).toInt64 = lN d := by decide +kernel
theorem x_m1 : ∀ k, k < 13 → nI k + (-1) = nI k - 1 := by decide +kernel
theorem c_St_packed {N : Nat} {lf vf : Nat → Int32} (hN : N < 32 ^ 12) (h : stI F r N lf vf) : Cal l X M_St_packed 0 0 [.ref r] n F (ev_pure (.long (lN N)) n F) := by
  have hl := sl_le N
  have key : ∀ k, k ≤ sl N → Ev l X M_St_packed 0 0 9 [(0, .ref r), (1, .long (lN (N / 32 ^ k))), (3, .int (nI k - 1))] [] n F (ev_mq X (ev_pure (.long (lN N)) n F)) := by
    intro k
    induction k with
    | zero =>
      intro _
      refine s_St_packed_9 h.1 h.2.1 (fun _ => ⟨by simp, rfl, rfl⟩) ?_ ?_
      all_goals exact fun c => absurd (by decide) c
    | succ k ih =>
      intro hk
      rw [show nI (k + 1) - 1 = nI k from pk_sub (a := k + 1) (b := 1) (by omega)]
      refine s_St_packed_9 h.1 h.2.1 (fun c => absurd c (nI_pos (by omega))) (fun _ => vp_in_nI (by omega) (by decide)) (fun _ => ?_)
      have hd := sd_lt N k
      have ha : N / 32 ^ (k + 1) * 32 + sd N k = N / 32 ^ k := by
        rw [← w_div]
        unfold sd
        omega
      have h64 : N / 32 ^ k < 2 ^ 64 := Nat.lt_of_le_of_lt (Nat.div_le_self _ _) (Nat.lt_of_lt_of_le hN (by decide))
      rw [nI_clamp (by omega), (h.2.2.2 k (by omega)).1, x_pk _ hd, x_m1 k (by omega), show (5 : Int32) = nI 5 from rfl, wb_shl _ (by decide), show 2 ^ 5 = 32 from rfl, g_or (k := 5) rfl hd (by omega), ha]
      exact ih (by omega)
  have h0 := key (sl N) (Nat.le_refl _)
  rw [Nat.div_eq_of_lt (sl_lt hN)] at h0
  exact Cal.of (by decide) (Nat.le_of_ble_eq_true rfl) (s_St_packed_0 h.1 h0)
end ConSt2
