/-! the reference's draft, pending and query methods: contracts over its raw cells -/
/-- the term of a word's long -/
def tm (w : Int64) : Nat := st_term w.toBitVec.toNat
theorem tm_N {N : Nat} (h : N < 2 ^ 64) : tm (lN N) = st_term N := by
  unfold tm
  rw [wb_tn h]
theorem gw_lt {N : Nat} (h : gw N) : N < 2 ^ 64 := Nat.lt_of_lt_of_le h.2.1 (by decide)
section MoC
variable {l : Launch} {X : ev_X} {n : Nat} {B : ev_H} {r : Nat} {d ro se st fu wr to he re we : Int32} {ai : Nat → Nat → Int32} {al : Nat → Nat → Int64}
theorem c_Mo_termW {w : Int64} {F : ev_H} (h : isw w = true) : Cal l X M_Mo_termOf 0 0 [.long w] n F (ev_pure (.long (lN (tm w))) n F) := by
  obtain ⟨N, rfl, hN⟩ := isw_of h
  rw [tm_N (gw_lt hN)]
  exact c_Mo_termOf hN.gd
theorem c_Mo_feed_stop {w : Int64} (hs : ¬ st = 0) : Cal l X M_Mo_feed 0 0 [.ref r, .long w] n (moH B r d ro se st fu wr to he re we ai al) (ev_pure (.int (-9)) n (moH B r d ro se st fu wr to he re we ai al)) := by
  refine Cal.of (by decide) (Nat.le_of_ble_eq_true rfl) (s_Mo_feed_0 (v11 := 0) (v37 := 0) mh_0 mh_1 ?_ ?_ ?_ ?_ ?_ ?_ (fun _ => ⟨rfl, rfl, rfl⟩))
  all_goals exact fun c => absurd c hs
theorem c_Mo_feed_no {w : Int64} (hs : st = 0) (h : isw w = false ∨ d = 12) : Cal l X M_Mo_feed 0 0 [.ref r, .long w] n (moH B r d ro se st fu wr to he re we ai al) (ev_pure (.int (-1)) n (moH B r d ro se st fu wr to he re we ai al)) := by
  have hx : ∀ {A : Prop}, ¬ bI (isw w) = 0 → ¬ d = 12 → A := fun a b => by
    rcases h with h | h
    · exact absurd (bI_1.mpr h) a
    · exact absurd h b
  refine Cal.of (by decide) (Nat.le_of_ble_eq_true rfl) (s_Mo_feed_0 (v11 := bI (isw w)) (v37 := 0) mh_0 mh_1 (fun _ => c_Mo_isWord w) (fun _ _ => ⟨rfl, rfl, rfl⟩) (fun _ a b => hx a b) (fun _ a b => hx a b) (fun _ a b => hx a b) (fun _ _ _ => ⟨rfl, rfl, rfl⟩) (fun c => absurd hs c))
theorem c_Mo_feed_ok {w : Int64} {k : Nat} (hs : st = 0) (h : isw w = true) (hk : k < 12) : Cal l X M_Mo_feed 0 0 [.ref r, .long w] n (moH B r (nI k) ro se st fu wr to he re we ai al) (ev_pure (.int (nI (k + 1))) n (moH B r (nI (k + 1)) ro se st fu wr to he re we ai (va_up al 1 (vp_updL (al 1) k (lN (tm w)))))) := by
  have h12 : ¬ nI k = 12 := fun z => by
    have := (nI_eq (b := 12) (by omega) (by decide)).mp z
    omega
  have hne : ¬ bI (isw w) = 0 := fun z => by rw [h] at z; exact absurd z (by decide)
  refine Cal.of (by decide) (Nat.le_of_ble_eq_true rfl) (s_Mo_feed_0 (v11 := bI (isw w)) (v37 := lN (tm w)) mh_0 mh_1 (fun _ => c_Mo_isWord w) (fun _ z => absurd z hne) (fun _ _ _ => c_Mo_termW h) (fun _ _ _ => vp_in_nI hk (by decide)) (fun _ _ _ => ?_) (fun _ _ z => absurd z h12) (fun c => absurd hs c))
  rw [nI_clamp (by omega), mu_1, mu_o, nI_1]
  exact ⟨rfl, rfl, rfl⟩
/-- the reference's loop that copies a draft: from place k on -/
def cpyF (f g : Nat → Int64) (o k : Nat) : Nat → Int64 := fun i => if o ≤ i ∧ i < o + k then f (i - o) else g i
theorem cpyF_0 (f g : Nat → Int64) (o : Nat) : cpyF f g o 0 = g := by
  funext i
  unfold cpyF
  rw [if_neg (by omega)]
theorem cpyF_s (f g : Nat → Int64) (o k : Nat) : vp_updL (cpyF f g o k) (o + k) (f k) = cpyF f g o (k + 1) := by
  funext i
  unfold vp_updL cpyF
  by_cases h : i = o + k
  · subst h
    rw [if_pos rfl, if_pos (by omega)]
    congr 1
    omega
  · rw [if_neg h]
    by_cases h2 : o ≤ i ∧ i < o + k
    · rw [if_pos h2, if_pos (by omega)]
    · rw [if_neg h2, if_neg (by omega)]
theorem c_Mo_add_stop {i : Int32} (hs : ¬ st = 0) : Cal l X M_Mo_add 0 0 [.ref r, .int i] n (moH B r d ro se st fu wr to he re we ai al) (ev_pure (.int (-9)) n (moH B r d ro se st fu wr to he re we ai al)) := by
  refine Cal.of (by decide) (Nat.le_of_ble_eq_true rfl) (s_Mo_add_0 mh_0 mh_2 mh_3 ?_ ?_ ?_ ?_ ?_ (fun _ => ⟨rfl, rfl, rfl⟩))
  all_goals exact fun c => absurd c hs
theorem c_Mo_add_no {i : Int32} (hs : st = 0) (h : i < 0 ∨ 11 < i) : Cal l X M_Mo_add 0 0 [.ref r, .int i] n (moH B r d ro se st fu wr to he re we ai al) (ev_pure (.int (-1)) n (moH B r d ro se st fu wr to he re we ai al)) := by
  have hx : ∀ {A : Prop}, ¬ i < 0 → i ≤ 11 → A := fun a b => by
    rcases h with h | h
    · exact absurd h a
    · have h1 := Int32.le_iff_toInt_le.mp b
      have h2 := Int32.lt_iff_toInt_lt.mp h
      omega
  exact Cal.of (by decide) (Nat.le_of_ble_eq_true rfl) (s_Mo_add_0 mh_0 mh_2 mh_3 (fun _ _ => ⟨rfl, rfl, rfl⟩) (fun _ a b => hx a b) (fun _ a b => hx a b) (fun _ a b => hx a b) (fun _ _ _ => ⟨rfl, rfl, rfl⟩) (fun c => absurd hs c))
theorem c_Mo_add_ok {i k : Nat} (hs : st = 0) (hi : i < 12) (hk : k ≤ 12) : Cal l X M_Mo_add 0 0 [.ref r, .int (nI i)] n (moH B r (nI k) ro se st fu wr to he re we ai al)
    (ev_pure (.int (nI (12 - cn (fun j => upd (ai 2) i 1 j == 0) 12))) n (moH B r 0 ro se st fu wr to he re we (va_up (va_up ai 2 (upd (ai 2) i 1)) 3 (upd (ai 3) i (nI k))) (va_up al 4 (cpyF (al 1) (al 4) (12 * i) k)))) := by
  have key : ∀ (e j : Nat), j + e = k → Ev l X M_Mo_add 0 0 41 [(0, .ref r), (1, .int (nI i)), (2, .int (nI j))] [] n (moH B r (nI k) ro se st fu wr to he re we (va_up (va_up ai 2 (upd (ai 2) i 1)) 3 (upd (ai 3) i (nI k))) (va_up al 4 (cpyF (al 1) (al 4) (12 * i) j))) (ev_mq X (ev_pure (.int (nI (12 - cn (fun j => upd (ai 2) i 1 j == 0) 12))) n (moH B r 0 ro se st fu wr to he re we (va_up (va_up ai 2 (upd (ai 2) i 1)) 3 (upd (ai 3) i (nI k))) (va_up al 4 (cpyF (al 1) (al 4) (12 * i) k))))) := by
    intro e
    induction e with
    | zero =>
      intro j hj
      have e1 : j = k := by omega
      subst e1
      have hle : nI j ≤ nI j := (nI_leI (by omega) (by omega)).mpr (Nat.le_refl _)
      refine s_Mo_add_41 (v80 := nI (cn (fun j => upd (ai 2) i 1 j == 0) 12)) mh_0 mh_1 mh_4 (fun _ => ?_) (fun _ => ?_) ?_ ?_ ?_
      · rw [mu_o]
        exact c_Mo_idle
      · rw [mu_o, show (12 : Int32) = nI 12 from rfl, pk_sub (cn_le _ _)]
        exact ⟨rfl, rfl, rfl⟩
      all_goals exact fun c => absurd hle c
    | succ e ih =>
      intro j hj
      have hgt : ¬ nI k ≤ nI j := i_ge (by omega) (by omega) (by omega)
      have e1 : (12 : Int32) * nI i + nI j = nI (12 * i + j) := by rw [show (12 : Int32) = nI 12 from rfl, pk_mul, nI_add]
      refine s_Mo_add_41 (v80 := 0) mh_0 mh_1 mh_4 (fun c => absurd c hgt) (fun c => absurd c hgt) (fun _ => vp_in_nI (by omega) (by decide)) (fun _ => ?_) (fun _ => ?_)
      · rw [e1]
        exact vp_in_nI (by omega) (by decide)
      · rw [e1, nI_clamp (by omega), nI_clamp (by omega), mu_4, nI_1, va_uu]
        rw [show va_up al 4 (cpyF (al 1) (al 4) (12 * i) j) 4 = cpyF (al 1) (al 4) (12 * i) j from rfl, show va_up al 4 (cpyF (al 1) (al 4) (12 * i) j) 1 = al 1 from rfl, cpyF_s]
        exact ih (j + 1) (by omega)
  have h0 := key k 0 (by omega)
  rw [cpyF_0, va_id] at h0
  have hn : ¬ nI i < 0 := nI_pos (by omega)
  have hle : nI i ≤ 11 := (nI_leI (b := 11) (by omega) (by decide)).mpr (by omega)
  refine Cal.of (by decide) (Nat.le_of_ble_eq_true rfl) (s_Mo_add_0 mh_0 mh_2 mh_3 (fun _ a => absurd a hn) (fun _ _ _ => vp_in_nI hi (by decide)) (fun _ _ _ => vp_in_nI hi (by decide)) (fun _ _ _ => ?_) (fun _ _ z => absurd hle z) (fun c => absurd hs c))
  rw [nI_clamp (by omega), mu_2, mu_3]
  exact h0
theorem c_Mo_delete_stop {i : Int32} (hs : ¬ st = 0) : Cal l X M_Mo_delete 0 0 [.ref r, .int i] n (moH B r d ro se st fu wr to he re we ai al) (ev_pure (.int (-9)) n (moH B r d ro se st fu wr to he re we ai al)) := by
  refine Cal.of (by decide) (Nat.le_of_ble_eq_true rfl) (s_Mo_delete_0 (v32 := 0) mh_0 mh_2 ?_ ?_ ?_ ?_ ?_ (fun _ => ⟨rfl, rfl, rfl⟩))
  all_goals exact fun c => absurd c hs
theorem c_Mo_delete_no {i : Int32} (hs : st = 0) (h : i < 0 ∨ 11 < i) : Cal l X M_Mo_delete 0 0 [.ref r, .int i] n (moH B r d ro se st fu wr to he re we ai al) (ev_pure (.int (-1)) n (moH B r d ro se st fu wr to he re we ai al)) := by
  have hx : ∀ {A : Prop}, ¬ i < 0 → i ≤ 11 → A := fun a b => by
    rcases h with h | h
    · exact absurd h a
    · have h1 := Int32.le_iff_toInt_le.mp b
      have h2 := Int32.lt_iff_toInt_lt.mp h
      omega
  exact Cal.of (by decide) (Nat.le_of_ble_eq_true rfl) (s_Mo_delete_0 (v32 := 0) mh_0 mh_2 (fun _ _ => ⟨rfl, rfl, rfl⟩) (fun _ a b => hx a b) (fun _ a b => hx a b) (fun _ a b => hx a b) (fun _ _ _ => ⟨rfl, rfl, rfl⟩) (fun c => absurd hs c))
theorem c_Mo_delete_ok {i : Nat} (hs : st = 0) (hi : i < 12) : Cal l X M_Mo_delete 0 0 [.ref r, .int (nI i)] n (moH B r d ro se st fu wr to he re we ai al) (ev_pure (.int (nI (12 - cn (fun j => upd (ai 2) i 2 j == 0) 12))) n (moH B r d ro se st fu wr to he re we (va_up ai 2 (upd (ai 2) i 2)) al)) := by
  have hn : ¬ nI i < 0 := nI_pos (by omega)
  have hle : nI i ≤ 11 := (nI_leI (b := 11) (by omega) (by decide)).mpr (by omega)
  refine Cal.of (by decide) (Nat.le_of_ble_eq_true rfl) (s_Mo_delete_0 (v32 := nI (cn (fun j => upd (ai 2) i 2 j == 0) 12)) mh_0 mh_2 (fun _ a => absurd a hn) (fun _ _ _ => vp_in_nI hi (by decide)) (fun _ _ _ => ?_) (fun _ _ _ => ?_) (fun _ _ z => absurd hle z) (fun c => absurd hs c))
  · rw [nI_clamp (by omega), mu_2]
    exact c_Mo_idle
  · rw [nI_clamp (by omega), mu_2, show (12 : Int32) = nI 12 from rfl, pk_sub (cn_le _ _)]
    exact ⟨rfl, rfl, rfl⟩
theorem c_Mo_fuse_no {i : Int32} (h : ¬ st = 0 ∨ i < 1 ∨ 100 < i) : Cal l X M_Mo_fuse 0 0 [.ref r, .int i] n (moH B r d ro se st fu wr to he re we ai al) (ev_pure (.int 0) n (moH B r d ro se st fu wr to he re we ai al)) := by
  refine Cal.of (by decide) (Nat.le_of_ble_eq_true rfl) (s_Mo_fuse_0 mh_0 (fun _ => ⟨rfl, rfl, rfl⟩) (fun _ _ => ⟨rfl, rfl, rfl⟩) (fun a b c => ?_) (fun _ _ _ => ⟨rfl, rfl, rfl⟩))
  rcases h with h | h | h
  · exact absurd a h
  · exact absurd h b
  · have h1 := Int32.le_iff_toInt_le.mp c
    have h2 := Int32.lt_iff_toInt_lt.mp h
    omega
theorem c_Mo_fuse_ok {k : Nat} (hs : st = 0) (h1 : 1 ≤ k) (h2 : k ≤ 100) : Cal l X M_Mo_fuse 0 0 [.ref r, .int (nI k)] n (moH B r d ro se st fu wr to he re we ai al) (ev_pure (.int 1) n (moH B r d ro se st (nI k) wr to he re we ai al)) := by
  refine Cal.of (by decide) (Nat.le_of_ble_eq_true rfl) (s_Mo_fuse_0 mh_0 (fun c => absurd hs c) (fun _ b => ?_) (fun _ _ _ => ?_) (fun _ _ c => ?_))
  · have := (nI_ltI (b := 1) (by omega) (by decide)).mp b
    omega
  · rw [mu_o]
    exact ⟨rfl, rfl, rfl⟩
  · exact absurd ((nI_leI (b := 100) (by omega) (by decide)).mpr h2) c
theorem c_Mo_restart {b : Bool} : Cal l X M_Mo_restart 0 0 [.ref r] n (moH B r d ro se (bI b) fu wr to he re we ai al) (ev_pure (.int (bI b)) n (moH B r d ro se 0 fu wr to he re we ai al)) := by
  refine Cal.of (by decide) (Nat.le_of_ble_eq_true rfl) (s_Mo_restart_0 mh_0 ?_ (bI_nar b))
  rw [mu_o]
  exact ⟨rfl, rfl, rfl⟩
theorem c_Mo_result {i : Int32} {k : Nat} (hk : k ≤ 12) : Cal l X M_Mo_result 0 0 [.ref r, .int i] n (moH B r d ro se st fu wr to he (nI k) we ai al) (ev_pure (.int (if i < 0 ∨ nI k ≤ i then -1 else ai 15 i.toNatClampNeg)) n (moH B r d ro se st fu wr to he (nI k) we ai al)) := by
  have ni : ∀ {a b : Int32}, a < b → ¬ b ≤ a := fun {a b} h z => by
    have h1 := Int32.lt_iff_toInt_lt.mp h
    have h2 := Int32.le_iff_toInt_le.mp z
    omega
  have nj : ∀ {a b : Int32}, ¬ a < b → b ≤ a := fun {a b} h => Int32.not_lt.mp h
  refine Cal.of (by decide) (Nat.le_of_ble_eq_true rfl) (s_Mo_result_0 mh_0 mh_15 (fun a => ⟨?_, rfl, rfl⟩) (fun a b => ?_) (fun a b => ⟨?_, rfl, rfl⟩) (fun a b => ⟨?_, rfl, rfl⟩))
  · rw [if_pos (Or.inl a)]
  · obtain ⟨j, hj, rfl⟩ := nI_of a
    have := (nI_ltI hj (by omega)).mp b
    exact vp_in_nI (by omega) (by decide)
  · rw [if_neg (fun z => z.elim a (ni b))]
  · rw [if_pos (Or.inr (nj b))]
theorem c_Mo_weight {i : Int32} {k : Nat} (hk : k ≤ 12) : Cal l X M_Mo_weight 0 0 [.ref r, .int i] n (moH B r d ro se st fu wr to he (nI k) we ai al) (ev_pure (.int (if i < 0 ∨ nI k ≤ i then -1 else (al 16 i.toNatClampNeg).toInt32)) n (moH B r d ro se st fu wr to he (nI k) we ai al)) := by
  have ni : ∀ {a b : Int32}, a < b → ¬ b ≤ a := fun {a b} h z => by
    have h1 := Int32.lt_iff_toInt_lt.mp h
    have h2 := Int32.le_iff_toInt_le.mp z
    omega
  have nj : ∀ {a b : Int32}, ¬ a < b → b ≤ a := fun {a b} h => Int32.not_lt.mp h
  refine Cal.of (by decide) (Nat.le_of_ble_eq_true rfl) (s_Mo_weight_0 mh_0 mh_16 (fun a => ⟨?_, rfl, rfl⟩) (fun a b => ?_) (fun a b => ⟨?_, rfl, rfl⟩) (fun a b => ⟨?_, rfl, rfl⟩))
  · rw [if_pos (Or.inl a)]
  · obtain ⟨j, hj, rfl⟩ := nI_of a
    have := (nI_ltI hj (by omega)).mp b
    exact vp_in_nI (by omega) (by decide)
  · rw [if_neg (fun z => z.elim a (ni b))]
  · rw [if_pos (Or.inr (nj b))]
theorem c_Mo_weighed : Cal l X M_Mo_weighed 0 0 [.ref r] n (moH B r d ro se st fu wr to he re we ai al) (ev_pure (.int we) n (moH B r d ro se st fu wr to he re we ai al)) :=
  Cal.of (by decide) (Nat.le_of_ble_eq_true rfl) (s_Mo_weighed_0 mh_0 ⟨rfl, rfl, rfl⟩)
theorem c_Mo_stem {w : Int64} : Cal l X M_Mo_stem 0 0 [.ref r, .long w] n (moH B r d ro se st fu wr to he re we ai al) (ev_pure (.long (if isw w then lN (st_stem w.toBitVec.toNat) else 0)) n (moH B r d ro se st fu wr to he re we ai al)) := by
  cases h : isw w with
  | false =>
    have h0 : bI (isw w) = 0 := bI_1.mpr h
    exact Cal.of (by decide) (Nat.le_of_ble_eq_true rfl) (s_Mo_stem_0 (v1 := bI (isw w)) (v8 := 0) (c_Mo_isWord w) (fun _ => ⟨rfl, rfl, rfl⟩) (fun a => absurd h0 a) (fun a => absurd h0 a))
  | true =>
    have h0 : ¬ bI (isw w) = 0 := fun z => by rw [h] at z; exact absurd z (by decide)
    obtain ⟨N, rfl, hN⟩ := isw_of h
    rw [wb_tn (gw_lt hN)]
    exact Cal.of (by decide) (Nat.le_of_ble_eq_true rfl) (s_Mo_stem_0 (v1 := bI (isw (lN N))) (v8 := lN (st_stem N)) (c_Mo_isWord _) (fun a => absurd a h0) (fun _ => c_Mo_stemOf hN.gd) (fun _ => ⟨rfl, rfl, rfl⟩))
end MoC
