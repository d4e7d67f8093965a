/-! what the reference computes of its rows: contracts over its raw cells -/
def sN (f : Nat → Nat) : Nat → Nat
  | 0 => 0
  | k + 1 => sN f k + f k
theorem sN_le {f : Nat → Nat} {b : Nat} (h : ∀ i, f i ≤ b) : ∀ k, sN f k ≤ k * b
  | 0 => by simp [sN]
  | k + 1 => by
    have h1 := sN_le h k
    have h2 := h k
    unfold sN
    rw [Nat.add_mul, Nat.one_mul]
    omega
theorem sN_congr {f g : Nat → Nat} : ∀ {k : Nat}, (∀ i, i < k → f i = g i) → sN f k = sN g k
  | 0, _ => rfl
  | k + 1, h => by
    unfold sN
    rw [sN_congr (k := k) (fun i hi => h i (by omega)), h k (by omega)]
/-- how often t stands in the row's first s places -/
def rT (f : Nat → Int64) (q : Nat) (t : Int64) (s : Nat) : Nat := cn (fun p => t != 0 && f (12 * q + p) == t) s
/-- how many terms stand there -/
def rL (f : Nat → Int64) (q s : Nat) : Nat := cn (fun p => f (12 * q + p) != 0) s
/-- no earlier place has what place p has -/
def rF (f : Nat → Int64) (q p : Nat) : Nat → Bool
  | 0 => f (12 * q + p) != 0
  | k + 1 => rF f q p k && f (12 * q + k) != f (12 * q + p)
/-- how many different terms -/
def rD (f : Nat → Int64) (q s : Nat) : Nat := cn (fun p => rF f q p p) s
theorem i_12 {q p : Nat} : (12 : Int32) * nI q + nI p = nI (12 * q + p) := by rw [show (12 : Int32) = nI 12 from rfl, pk_mul, nI_add]
section MoD
variable {l : Launch} {X : ev_X} {n : Nat} {B : ev_H} {r : Nat} {d ro se st fu wr to he re we : Int32} {ai : Nat → Nat → Int32} {al : Nat → Nat → Int64}
theorem c_Mo_times {q s : Nat} {t : Int64} (hq : q < 80) (hs : s ≤ 12) (hz : ai 8 q = nI s) : Cal l X M_Mo_times 0 0 [.ref r, .int (nI q), .long t] n (moH B r d ro se st fu wr to he re we ai al) (ev_pure (.int (nI (rT (al 9) q t s))) n (moH B r d ro se st fu wr to he re we ai al)) := by
  have key : ∀ (e k : Nat), k + e = s → Ev l X M_Mo_times 0 0 6 [(0, .ref r), (1, .int (nI q)), (2, .long t), (4, .int (nI (rT (al 9) q t k))), (5, .int (nI k))] [] n (moH B r d ro se st fu wr to he re we ai al) (ev_mq X (ev_pure (.int (nI (rT (al 9) q t s))) n (moH B r d ro se st fu wr to he re we ai al))) := by
    intro e
    induction e with
    | zero =>
      intro k hk
      have e1 : k = s := by omega
      subst e1
      have hle : ai 8 (nI q).toNatClampNeg ≤ nI k := by
        rw [nI_clamp (by omega), hz]
        exact (nI_leI (by omega) (by omega)).mpr (Nat.le_refl _)
      refine s_Mo_times_6 mh_0 mh_8 mh_9 (vp_in_nI hq (by decide)) (fun _ => ⟨rfl, rfl, rfl⟩) ?_ ?_ ?_ ?_
      all_goals exact fun c => absurd hle c
    | succ e ih =>
      intro k hk
      have hgt : ¬ ai 8 (nI q).toNatClampNeg ≤ nI k := by
        rw [nI_clamp (by omega), hz]
        exact i_ge (by omega) (by omega) (by omega)
      have hi := ih (k + 1) (by omega)
      refine s_Mo_times_6 mh_0 mh_8 mh_9 (vp_in_nI hq (by decide)) (fun c => absurd c hgt) (fun _ a => ?_) (fun _ _ => ?_) (fun _ a b => ?_) (fun _ a b => ?_)
      · have ha := (lg_cmp_eq _ _).mp a
        rw [nI_1]
        unfold rT at hi ⊢
        rw [cn_n (by simp [ha])] at hi
        exact hi
      · rw [i_12]
        exact vp_in_nI (by omega) (by decide)
      · rw [i_12, nI_clamp (by omega), lg_cmp_eq] at b
        rw [nI_1]
        unfold rT at hi ⊢
        rw [cn_n (by simp [b])] at hi
        exact hi
      · rw [lg_cmp_eq] at a
        rw [i_12, nI_clamp (by omega), lg_cmp_eq] at b
        rw [nI_1, nI_1]
        unfold rT at hi ⊢
        rw [cn_y (by simp [a, b])] at hi
        exact hi
  exact Cal.of (by decide) (Nat.le_of_ble_eq_true rfl) (s_Mo_times_0 (key s 0 (by omega)))
theorem c_Mo_lengthOf {q s : Nat} (hq : q < 80) (hs : s ≤ 12) (hz : ai 8 q = nI s) : Cal l X M_Mo_lengthOf 0 0 [.ref r, .int (nI q)] n (moH B r d ro se st fu wr to he re we ai al) (ev_pure (.int (nI (rL (al 9) q s))) n (moH B r d ro se st fu wr to he re we ai al)) := by
  have key : ∀ (e k : Nat), k + e = s → Ev l X M_Mo_lengthOf 0 0 4 [(0, .ref r), (1, .int (nI q)), (2, .int (nI (rL (al 9) q k))), (3, .int (nI k))] [] n (moH B r d ro se st fu wr to he re we ai al) (ev_mq X (ev_pure (.int (nI (rL (al 9) q s))) n (moH B r d ro se st fu wr to he re we ai al))) := by
    intro e
    induction e with
    | zero =>
      intro k hk
      have e1 : k = s := by omega
      subst e1
      have hle : ai 8 (nI q).toNatClampNeg ≤ nI k := by
        rw [nI_clamp (by omega), hz]
        exact (nI_leI (by omega) (by omega)).mpr (Nat.le_refl _)
      refine s_Mo_lengthOf_4 mh_0 mh_8 mh_9 (vp_in_nI hq (by decide)) (fun _ => ⟨rfl, rfl, rfl⟩) ?_ ?_ ?_
      all_goals exact fun c => absurd hle c
    | succ e ih =>
      intro k hk
      have hgt : ¬ ai 8 (nI q).toNatClampNeg ≤ nI k := by
        rw [nI_clamp (by omega), hz]
        exact i_ge (by omega) (by omega) (by omega)
      have hi := ih (k + 1) (by omega)
      refine s_Mo_lengthOf_4 mh_0 mh_8 mh_9 (vp_in_nI hq (by decide)) (fun c => absurd c hgt) (fun _ => ?_) (fun _ a => ?_) (fun _ a => ?_)
      · rw [i_12]
        exact vp_in_nI (by omega) (by decide)
      · rw [i_12, nI_clamp (by omega), lg_cmp_eq] at a
        rw [nI_1]
        unfold rL at hi ⊢
        rw [cn_n (by simp [a])] at hi
        exact hi
      · rw [i_12, nI_clamp (by omega), lg_cmp_eq] at a
        rw [nI_1, nI_1]
        unfold rL at hi ⊢
        rw [cn_y (by simp [a])] at hi
        exact hi
  exact Cal.of (by decide) (Nat.le_of_ble_eq_true rfl) (s_Mo_lengthOf_0 (key s 0 (by omega)))
theorem c_Mo_lengths {R : Nat} {sz : Nat → Nat} (hR : R ≤ 80) (hz : ∀ q, q < R → ai 8 q = nI (sz q) ∧ sz q ≤ 12) : Cal l X M_Mo_lengths 0 0 [.ref r] n (moH B r d (nI R) se st fu wr to he re we ai al) (ev_pure (.int (nI (sN (fun q => if ai 7 q == 0 then rL (al 9) q (sz q) else 0) R))) n (moH B r d (nI R) se st fu wr to he re we ai al)) := by
  have key : ∀ (e k : Nat), k + e = R → Ev l X M_Mo_lengths 0 0 4 [(0, .ref r), (1, .int (nI (sN (fun q => if ai 7 q == 0 then rL (al 9) q (sz q) else 0) k))), (2, .int (nI k))] [] n (moH B r d (nI R) se st fu wr to he re we ai al) (ev_mq X (ev_pure (.int (nI (sN (fun q => if ai 7 q == 0 then rL (al 9) q (sz q) else 0) R))) n (moH B r d (nI R) se st fu wr to he re we ai al))) := by
    intro e
    induction e with
    | zero =>
      intro k hk
      have e1 : k = R := by omega
      subst e1
      have hle : nI k ≤ nI k := (nI_leI (by omega) (by omega)).mpr (Nat.le_refl _)
      refine s_Mo_lengths_4 (v28 := 0) mh_0 mh_7 (fun _ => ⟨rfl, rfl, rfl⟩) ?_ ?_ ?_ ?_
      all_goals exact fun c => absurd hle c
    | succ e ih =>
      intro k hk
      have hgt : ¬ nI R ≤ nI k := i_ge (by omega) (by omega) (by omega)
      obtain ⟨z1, z2⟩ := hz k (by omega)
      have hi := ih (k + 1) (by omega)
      refine s_Mo_lengths_4 (v28 := nI (rL (al 9) k (sz k))) mh_0 mh_7 (fun c => absurd c hgt) (fun _ => vp_in_nI (by omega) (by decide)) (fun _ _ => c_Mo_lengthOf (by omega) z2 z1) (fun _ a => ?_) (fun _ a => ?_)
      · rw [nI_clamp (by omega)] at a
        rw [nI_1, nI_add]
        have e2 : sN (fun q => if ai 7 q == 0 then rL (al 9) q (sz q) else 0) (k + 1) = sN (fun q => if ai 7 q == 0 then rL (al 9) q (sz q) else 0) k + rL (al 9) k (sz k) := by
          simp [sN, a]
        rw [e2] at hi
        exact hi
      · rw [nI_clamp (by omega)] at a
        rw [nI_1, show (0 : Int32) = nI 0 from rfl, nI_add]
        have e2 : sN (fun q => if ai 7 q == 0 then rL (al 9) q (sz q) else 0) (k + 1) = sN (fun q => if ai 7 q == 0 then rL (al 9) q (sz q) else 0) k + 0 := by
          simp [sN, a]
        rw [e2] at hi
        exact hi
  exact Cal.of (by decide) (Nat.le_of_ble_eq_true rfl) (s_Mo_lengths_0 (key R 0 (by omega)))
theorem c_Mo_different {q s : Nat} (hq : q < 80) (hs : s ≤ 12) (hz : ai 8 q = nI s) : Cal l X M_Mo_different 0 0 [.ref r, .int (nI q)] n (moH B r d ro se st fu wr to he re we ai al) (ev_pure (.int (nI (rD (al 9) q s))) n (moH B r d ro se st fu wr to he re we ai al)) := by
  have inner : ∀ (p : Nat) (b : Nat), p < s →
      (Ev l X M_Mo_different 0 0 4 [(0, .ref r), (1, .int (nI q)), (2, .int (nI (b + if rF (al 9) q p p then 1 else 0))), (3, .int (nI (p + 1)))] [] n (moH B r d ro se st fu wr to he re we ai al) (ev_mq X (ev_pure (.int (nI (rD (al 9) q s))) n (moH B r d ro se st fu wr to he re we ai al)))) →
      ∀ (e k : Nat), k + e = p → Ev l X M_Mo_different 0 0 44 [(0, .ref r), (1, .int (nI q)), (2, .int (nI b)), (3, .int (nI p)), (4, .long (al 9 (12 * q + p))), (6, .int (bI (rF (al 9) q p k))), (7, .int (nI k))] [] n (moH B r d ro se st fu wr to he re we ai al) (ev_mq X (ev_pure (.int (nI (rD (al 9) q s))) n (moH B r d ro se st fu wr to he re we ai al))) := by
    intro p b hp hout e
    induction e with
    | zero =>
      intro k hk
      have e1 : k = p := by omega
      subst e1
      have hle : nI k ≤ nI k := (nI_leI (by omega) (by omega)).mpr (Nat.le_refl _)
      refine s_Mo_different_44 mh_0 mh_9 (fun _ a => ?_) (fun _ a => ?_) ?_ ?_ ?_ ?_
      · rw [bI_1.mp a] at hout
        rw [nI_1]
        simpa using hout
      · rw [bI_n0 a] at hout
        rw [nI_1, nI_1]
        simpa using hout
      all_goals exact fun c => absurd hle c
    | succ e ih =>
      intro k hk
      have hgt : ¬ nI p ≤ nI k := i_ge (by omega) (by omega) (by omega)
      have hi := ih (k + 1) (by omega)
      refine s_Mo_different_44 mh_0 mh_9 (fun c => absurd c hgt) (fun c => absurd c hgt) (fun _ a => ?_) (fun _ _ => ?_) (fun _ _ a => ?_) (fun _ a c => ?_)
      · rw [nI_1]
        have e2 : rF (al 9) q p (k + 1) = false := by simp [rF, bI_1.mp a]
        rw [e2] at hi
        exact hi
      · rw [i_12]
        exact vp_in_nI (by omega) (by decide)
      · rw [i_12, nI_clamp (by omega), lg_cmp_eq] at a
        rw [nI_1]
        have e2 : rF (al 9) q p (k + 1) = false := by simp [rF, a]
        rw [e2] at hi
        exact hi
      · rw [i_12, nI_clamp (by omega), lg_cmp_eq] at c
        rw [nI_1]
        have e2 : rF (al 9) q p (k + 1) = true := by simp [rF, bI_n0 a, c]
        rw [e2] at hi
        exact hi
  have key : ∀ (e k : Nat), k + e = s → Ev l X M_Mo_different 0 0 4 [(0, .ref r), (1, .int (nI q)), (2, .int (nI (rD (al 9) q k))), (3, .int (nI k))] [] n (moH B r d ro se st fu wr to he re we ai al) (ev_mq X (ev_pure (.int (nI (rD (al 9) q s))) n (moH B r d ro se st fu wr to he re we ai al))) := by
    intro e
    induction e with
    | zero =>
      intro k hk
      have e1 : k = s := by omega
      subst e1
      have hle : ai 8 (nI q).toNatClampNeg ≤ nI k := by
        rw [nI_clamp (by omega), hz]
        exact (nI_leI (by omega) (by omega)).mpr (Nat.le_refl _)
      refine s_Mo_different_4 mh_0 mh_8 mh_9 (vp_in_nI hq (by decide)) (fun _ => ⟨rfl, rfl, rfl⟩) ?_ ?_ ?_
      all_goals exact fun c => absurd hle c
    | succ e ih =>
      intro k hk
      have hgt : ¬ ai 8 (nI q).toNatClampNeg ≤ nI k := by
        rw [nI_clamp (by omega), hz]
        exact i_ge (by omega) (by omega) (by omega)
      have hi := inner k (rD (al 9) q k) (by omega) (ih (k + 1) (by omega)) k 0 (by omega)
      refine s_Mo_different_4 mh_0 mh_8 mh_9 (vp_in_nI hq (by decide)) (fun c => absurd c hgt) (fun _ => ?_) (fun _ a => ?_) (fun _ a => ?_)
      · rw [i_12]
        exact vp_in_nI (by omega) (by decide)
      · rw [i_12, nI_clamp (by omega)] at a ⊢
        have e2 : rF (al 9) q k 0 = false := by simp [rF, (lg_cmp_eq _ _).mp a]
        rw [e2] at hi
        exact hi
      · rw [i_12, nI_clamp (by omega)] at a ⊢
        rw [lg_cmp_eq] at a
        have e2 : rF (al 9) q k 0 = true := by simp [rF, a]
        rw [e2] at hi
        exact hi
  exact Cal.of (by decide) (Nat.le_of_ble_eq_true rfl) (s_Mo_different_0 (key s 0 (by omega)))
end MoD
