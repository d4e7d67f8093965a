/-! the reference's small methods: contracts -/
/-- how many places below k have p -/
def cn (p : Nat → Bool) : Nat → Nat
  | 0 => 0
  | k + 1 => cn p k + if p k then 1 else 0
theorem cn_le (p : Nat → Bool) : ∀ k, cn p k ≤ k
  | 0 => Nat.le_refl _
  | k + 1 => by
    have := cn_le p k
    unfold cn
    split <;> omega
theorem cn_congr {p q : Nat → Bool} : ∀ {k : Nat}, (∀ i, i < k → p i = q i) → cn p k = cn q k
  | 0, _ => rfl
  | k + 1, h => by
    unfold cn
    rw [cn_congr (k := k) (fun i hi => h i (by omega)), h k (by omega)]
theorem cn_y {p : Nat → Bool} {k : Nat} (h : p k = true) : cn p (k + 1) = cn p k + 1 := by simp [cn, h]
theorem cn_n {p : Nat → Bool} {k : Nat} (h : p k = false) : cn p (k + 1) = cn p k := by simp [cn, h]
theorem i_ge {a k : Nat} (ha : a < 2 ^ 31) (hk : k < 2 ^ 31) (h : k < a) : ¬ nI a ≤ nI k := fun z => by
  have := (nI_leI ha hk).mp z
  omega
section MoB
variable {l : Launch} {X : ev_X} {n : Nat} {B : ev_H} {r : Nat} {d ro se st fu wr to he re we : Int32} {ai : Nat → Nat → Int32} {al : Nat → Nat → Int64}
theorem c_Mo_idle : Cal l X M_Mo_idle 0 0 [.ref r] n (moH B r d ro se st fu wr to he re we ai al) (ev_pure (.int (nI (cn (fun i => ai 2 i == 0) 12))) n (moH B r d ro se st fu wr to he re we ai al)) := by
  have key : ∀ (e k : Nat), k + e = 12 → Ev l X M_Mo_idle 0 0 4 [(0, .ref r), (1, .int (nI (cn (fun i => ai 2 i == 0) k))), (2, .int (nI k))] [] n (moH B r d ro se st fu wr to he re we ai al) (ev_mq X (ev_pure (.int (nI (cn (fun i => ai 2 i == 0) 12))) n (moH B r d ro se st fu wr to he re we ai al))) := by
    intro e
    induction e with
    | zero =>
      intro k hk
      have e1 : k = 12 := by omega
      subst e1
      refine s_Mo_idle_4 mh_0 mh_2 (fun _ => ⟨rfl, rfl, rfl⟩) ?_ ?_ ?_
      all_goals exact fun c => absurd (by decide) c
    | succ e ih =>
      intro k hk
      have hgt : ¬ (12 : Int32) ≤ nI k := i_ge (a := 12) (by decide) (by omega) (by omega)
      refine s_Mo_idle_4 mh_0 mh_2 (fun c => absurd c hgt) (fun _ => vp_in_nI (by omega) (by decide)) (fun _ a => ?_) (fun _ a => ?_)
      · rw [nI_clamp (by omega)] at a
        rw [nI_1, ← cn_n (p := fun i => ai 2 i == 0) (k := k) (by simp [a])]
        exact ih (k + 1) (by omega)
      · rw [nI_clamp (by omega)] at a
        rw [nI_1, nI_1, ← cn_y (p := fun i => ai 2 i == 0) (k := k) (by simp [a])]
        exact ih (k + 1) (by omega)
  exact Cal.of (by decide) (Nat.le_of_ble_eq_true rfl) (s_Mo_idle_0 (key 12 0 rfl))
theorem c_Mo_documents : Cal l X M_Mo_documents 0 0 [.ref r] n (moH B r d ro se st fu wr to he re we ai al) (ev_pure (.int (nI (cn (fun i => ai 2 i == 1) 12))) n (moH B r d ro se st fu wr to he re we ai al)) := by
  have key : ∀ (e k : Nat), k + e = 12 → Ev l X M_Mo_documents 0 0 4 [(0, .ref r), (1, .int (nI (cn (fun i => ai 2 i == 1) k))), (2, .int (nI k))] [] n (moH B r d ro se st fu wr to he re we ai al) (ev_mq X (ev_pure (.int (nI (cn (fun i => ai 2 i == 1) 12))) n (moH B r d ro se st fu wr to he re we ai al))) := by
    intro e
    induction e with
    | zero =>
      intro k hk
      have e1 : k = 12 := by omega
      subst e1
      refine s_Mo_documents_4 mh_0 mh_2 (fun _ => ⟨rfl, rfl, rfl⟩) ?_ ?_ ?_
      all_goals exact fun c => absurd (by decide) c
    | succ e ih =>
      intro k hk
      have hgt : ¬ (12 : Int32) ≤ nI k := i_ge (a := 12) (by decide) (by omega) (by omega)
      refine s_Mo_documents_4 mh_0 mh_2 (fun c => absurd c hgt) (fun _ => vp_in_nI (by omega) (by decide)) (fun _ a => ?_) (fun _ a => ?_)
      · rw [nI_clamp (by omega)] at a
        rw [nI_1, ← cn_n (p := fun i => ai 2 i == 1) (k := k) (by simp [a])]
        exact ih (k + 1) (by omega)
      · rw [nI_clamp (by omega)] at a
        rw [nI_1, nI_1, ← cn_y (p := fun i => ai 2 i == 1) (k := k) (by simp [a])]
        exact ih (k + 1) (by omega)
  exact Cal.of (by decide) (Nat.le_of_ble_eq_true rfl) (s_Mo_documents_0 (key 12 0 rfl))
theorem c_Mo_live {R : Nat} (hR : R ≤ 80) : Cal l X M_Mo_live 0 0 [.ref r] n (moH B r d (nI R) se st fu wr to he re we ai al) (ev_pure (.int (nI (cn (fun q => ai 7 q == 0) R))) n (moH B r d (nI R) se st fu wr to he re we ai al)) := by
  have key : ∀ (e k : Nat), k + e = R → Ev l X M_Mo_live 0 0 4 [(0, .ref r), (1, .int (nI (cn (fun q => ai 7 q == 0) k))), (2, .int (nI k))] [] n (moH B r d (nI R) se st fu wr to he re we ai al) (ev_mq X (ev_pure (.int (nI (cn (fun q => ai 7 q == 0) R))) n (moH B r d (nI R) se st fu wr to he re we ai al))) := by
    intro e
    induction e with
    | zero =>
      intro k hk
      have e1 : k = R := by omega
      subst e1
      have hle : nI k ≤ nI k := (nI_leI (by omega) (by omega)).mpr (Nat.le_refl _)
      refine s_Mo_live_4 mh_0 mh_7 (fun _ => ⟨rfl, rfl, rfl⟩) ?_ ?_ ?_
      all_goals exact fun c => absurd hle c
    | succ e ih =>
      intro k hk
      have hgt : ¬ nI R ≤ nI k := i_ge (by omega) (by omega) (by omega)
      refine s_Mo_live_4 mh_0 mh_7 (fun c => absurd c hgt) (fun _ => vp_in_nI (by omega) (by decide)) (fun _ a => ?_) (fun _ a => ?_)
      · rw [nI_clamp (by omega)] at a
        rw [nI_1, nI_1, ← cn_y (p := fun q => ai 7 q == 0) (k := k) (by simp [a])]
        exact ih (k + 1) (by omega)
      · rw [nI_clamp (by omega)] at a
        rw [nI_1, ← cn_n (p := fun q => ai 7 q == 0) (k := k) (by simp [a])]
        exact ih (k + 1) (by omega)
  exact Cal.of (by decide) (Nat.le_of_ble_eq_true rfl) (s_Mo_live_0 (key R 0 (by omega)))
/-- the first k places are 0 -/
def zf (f : Nat → Int32) (k : Nat) : Nat → Int32 := fun i => if i < k then 0 else f i
theorem zf_0 (f : Nat → Int32) : zf f 0 = f := by funext i; simp [zf]
theorem zf_s (f : Nat → Int32) (k : Nat) : upd (zf f k) k 0 = zf f (k + 1) := by
  funext i
  unfold upd zf
  by_cases h : i = k
  · subst h; simp
  · by_cases h2 : i < k
    · simp [h, h2, show i < k + 1 by omega]
    · simp [h, h2, show ¬ i < k + 1 by omega]
theorem va_uu {α : Type} (f : Nat → α) (k : Nat) (v w : α) : va_up (va_up f k v) k w = va_up f k w := bx_uu f k v w
theorem va_id {α : Type} (f : Nat → α) (k : Nat) : va_up f k (f k) = f := by
  funext i
  unfold va_up
  by_cases h : i = k
  · subst h; simp
  · simp [h]
theorem c_Mo_stop : Cal l X M_Mo_stop 0 0 [.ref r] n (moH B r d ro se st fu wr to he re we ai al) (ev_void n (moH B r 0 ro se 1 fu wr 0 0 re we (va_up ai 2 (zf (ai 2) 12)) al)) := by
  have key : ∀ (e k : Nat), k + e = 12 → Ev l X M_Mo_stop 0 0 12 [(0, .ref r), (1, .int (nI k))] [] n (moH B r 0 ro se 1 fu wr to he re we (va_up ai 2 (zf (ai 2) k)) al) (ev_mq X (ev_void n (moH B r 0 ro se 1 fu wr 0 0 re we (va_up ai 2 (zf (ai 2) 12)) al))) := by
    intro e
    induction e with
    | zero =>
      intro k hk
      have e1 : k = 12 := by omega
      subst e1
      refine s_Mo_stop_12 mh_0 mh_2 (fun _ => ?_) ?_ ?_
      · rw [mu_o, mu_o]
        exact ⟨rfl, rfl, rfl⟩
      all_goals exact fun c => absurd (by decide) c
    | succ e ih =>
      intro k hk
      have hgt : ¬ (12 : Int32) ≤ nI k := i_ge (a := 12) (by decide) (by omega) (by omega)
      refine s_Mo_stop_12 mh_0 mh_2 (fun c => absurd c hgt) (fun _ => vp_in_nI (by omega) (by decide)) (fun _ => ?_)
      rw [nI_clamp (by omega), mu_2, nI_1]
      rw [va_uu, show va_up ai 2 (zf (ai 2) k) 2 = zf (ai 2) k from rfl, zf_s]
      exact ih (k + 1) (by omega)
  have h0 := key 12 0 rfl
  rw [zf_0, va_id] at h0
  refine Cal.of (by decide) (Nat.le_of_ble_eq_true rfl) (s_Mo_stop_0 mh_0 ?_)
  rw [mu_o, mu_o]
  exact h0
theorem c_Mo_write {f w k : Nat} (hf : f ≤ 100) (hw : w < 2 ^ 30) (hk : k < 2 ^ 20) : Cal l X M_Mo_write 0 0 [.ref r, .int (nI k)] n (moH B r d ro se st (nI f) (nI w) to he re we ai al)
    (ev_pure (.int (nI (if 0 < f ∧ f ≤ k then f else k))) n (moH B r d ro se st (nI (if 0 < f ∧ f ≤ k then 0 else f - k)) (nI (w + if 0 < f ∧ f ≤ k then f else k)) to he re we ai al)) := by
  have e0 : ∀ {a : Nat}, a < 2 ^ 31 → (nI a ≤ 0 ↔ a = 0) := fun {a} ha => by
    rw [show (0 : Int32) = nI 0 from rfl, nI_leI ha (by decide)]
    omega
  refine Cal.of (by decide) (Nat.le_of_ble_eq_true rfl) (s_Mo_write_0 mh_0 (fun a _ => ?_) (fun a b => absurd a b) (fun a _ b => absurd b a) (fun a b _ => ?_) (fun a b => ?_))
  · have h0 := (e0 (by omega)).mp a
    subst h0
    rw [mu_o, nI_add]
    exact ⟨by simp, rfl, by simp⟩
  · have h0 : 0 < f := Nat.pos_of_ne_zero fun z => a ((e0 (by omega)).mpr z)
    have h1 := (nI_ltI (by omega) (by omega)).mp b
    rw [mu_o, mu_o, nI_add, pk_sub (by omega)]
    simp only [if_neg (show ¬ (0 < f ∧ f ≤ k) by omega)]
    exact ⟨rfl, rfl, rfl⟩
  · have h0 : 0 < f := Nat.pos_of_ne_zero fun z => a ((e0 (by omega)).mpr z)
    have h1 : f ≤ k := Nat.le_of_not_lt fun z => b ((nI_ltI (by omega) (by omega)).mpr z)
    rw [mu_o, mu_o, nI_add]
    simp only [if_pos (show 0 < f ∧ f ≤ k from ⟨h0, h1⟩)]
    exact ⟨rfl, rfl, rfl⟩
end MoB
