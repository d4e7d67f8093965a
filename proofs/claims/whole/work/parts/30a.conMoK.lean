/-! the reference's rows: copied, marked, laid down -/
/-- the row q of the reference -/
def rA (ai : Nat → Nat → Int32) (al : Nat → Nat → Int64) (q : Nat) (x : PRow) : Prop := ai 5 q = nI x.1 ∧ ai 6 q = nI x.2.1 ∧ ai 7 q = bI x.2.2.1 ∧ ai 8 q = nI x.2.2.2.length ∧ (∀ j, j < x.2.2.2.length → al 9 (12 * q + j) = tg x.2.2.2 j) ∧ x.1 < 12 ∧ x.2.1 < 8 ∧ x.2.2.2.length ≤ 12
def rwR (ai : Nat → Nat → Int32) (al : Nat → Nat → Int64) (rl : List PRow) : Prop := ∀ q x, rl[q]? = some x → rA ai al q x
/-- other rows of cells: only the rows of documents may differ -/
abbrev fI (ai ai' : Nat → Nat → Int32) : Prop := ∀ k, k ≠ 5 → k ≠ 6 → k ≠ 7 → k ≠ 8 → ai' k = ai k
abbrev fL (al al' : Nat → Nat → Int64) : Prop := ∀ k, k ≠ 9 → al' k = al k
theorem rA_k {ai ai' : Nat → Nat → Int32} {al al' : Nat → Nat → Int64} {q : Nat} {x : PRow} (h : rA ai al q x) (h5 : ai' 5 q = ai 5 q) (h6 : ai' 6 q = ai 6 q) (h7 : ai' 7 q = ai 7 q) (h8 : ai' 8 q = ai 8 q) (h9 : ∀ j, j < 12 → al' 9 (12 * q + j) = al 9 (12 * q + j)) : rA ai' al' q x := by
  obtain ⟨a1, a2, a3, a4, a5, a6, a7, a8⟩ := h
  exact ⟨by rw [h5]; exact a1, by rw [h6]; exact a2, by rw [h7]; exact a3, by rw [h8]; exact a4, fun j hj => by rw [h9 j (by omega)]; exact a5 j hj, a6, a7, a8⟩
/-- the row at one place is another one -/
theorem rw_mid {ai ai' : Nat → Nat → Int32} {al al' : Nat → Nat → Int64} {a t : List PRow} {x y : PRow} (h : rwR ai al (a ++ x :: t)) (hy : rA ai' al' a.length y) (ho : ∀ q z, q ≠ a.length → rA ai al q z → rA ai' al' q z) : rwR ai' al' (a ++ y :: t) := fun q z hz => by
  by_cases e : q = a.length
  · subst e
    rw [get_mid] at hz
    cases hz
    exact hy
  · refine ho q z e (h q z ?_)
    rw [← hz]
    by_cases g : q < a.length
    · rw [List.getElem?_append_left g, List.getElem?_append_left g]
    · rw [List.getElem?_append_right (by omega), List.getElem?_append_right (by omega)]
      obtain ⟨u, hu⟩ : ∃ u, q - a.length = u + 1 := ⟨q - a.length - 1, by omega⟩
      rw [hu, List.getElem?_cons_succ, List.getElem?_cons_succ]
theorem rw_app {ai ai' : Nat → Nat → Int32} {al al' : Nat → Nat → Int64} {a : List PRow} {y : PRow} (h : rwR ai al a) (hy : rA ai' al' a.length y) (ho : ∀ q z, q < a.length → rA ai al q z → rA ai' al' q z) : rwR ai' al' (a ++ [y]) := fun q z hz => by
  by_cases g : q < a.length
  · rw [List.getElem?_append_left g] at hz
    exact ho q z g (h q z hz)
  · rw [List.getElem?_append_right (by omega)] at hz
    have e0 : q - a.length = 0 := by
      have := (List.getElem?_eq_some_iff.mp hz).1
      simp at this
      omega
    rw [e0] at hz
    cases hz
    rw [show q = a.length by omega]
    exact hy
def cpI (ai : Nat → Nat → Int32) (f s : Nat) : Nat → Nat → Int32 := va_up (va_up (va_up (va_up ai 5 (upd (ai 5) s (ai 5 f))) 6 (upd (ai 6) s (ai 6 f))) 7 (upd (ai 7) s (ai 7 f))) 8 (upd (ai 8) s (ai 8 f))
def cpR (g : Nat → Int64) (f s k : Nat) : Nat → Int64 := fun i => if 12 * s ≤ i ∧ i < 12 * s + k then g (12 * f + (i - 12 * s)) else g i
theorem cpR_0 (g : Nat → Int64) (f s : Nat) : cpR g f s 0 = g := funext fun i => by
  unfold cpR
  rw [if_neg (by omega)]
theorem cpR_s (g : Nat → Int64) {f s k : Nat} (hk : k < 12) : vp_updL (cpR g f s k) (12 * s + k) (cpR g f s k (12 * f + k)) = cpR g f s (k + 1) := funext fun i => by
  have e1 : cpR g f s k (12 * f + k) = g (12 * f + k) := by
    unfold cpR
    by_cases e : f = s
    · subst e
      rw [if_neg (by omega)]
    · rw [if_neg (by omega)]
  rw [e1]
  unfold vp_updL
  by_cases e : i = 12 * s + k
  · subst e
    rw [if_pos rfl]
    unfold cpR
    rw [if_pos (by omega)]
    congr 1
    omega
  · rw [if_neg e]
    unfold cpR
    by_cases g2 : 12 * s ≤ i ∧ i < 12 * s + k
    · rw [if_pos g2, if_pos (by omega)]
    · rw [if_neg g2, if_neg (by omega)]
section MoK
variable {l : Launch} {X : ev_X} {n : Nat} {B : ev_H} {r : Nat} {d ro se st fu wr to he re we : Int32} {ai : Nat → Nat → Int32} {al : Nat → Nat → Int64}
theorem c_Mo_copyRow {f s : Nat} {b : Bool} (hf : f < 80) (hs : s < 80) (hb : ai 7 f = bI b) : Cal l X M_Mo_copyRow 0 0 [.ref r, .int (nI f), .int (nI s)] n (moH B r d ro se st fu wr to he re we ai al) (ev_void n (moH B r d ro se st fu wr to he re we (cpI ai f s) (va_up al 9 (cpR (al 9) f s 12)))) := by
  have key : ∀ (e k : Nat), k + e = 12 → Ev l X M_Mo_copyRow 0 0 50 [(0, .ref r), (1, .int (nI f)), (2, .int (nI s)), (3, .int (nI k))] [] n (moH B r d ro se st fu wr to he re we (cpI ai f s) (va_up al 9 (cpR (al 9) f s k))) (ev_mq X (ev_void n (moH B r d ro se st fu wr to he re we (cpI ai f s) (va_up al 9 (cpR (al 9) f s 12))))) := by
    intro e
    induction e with
    | zero =>
      intro k hk
      have e1 : k = 12 := by omega
      subst e1
      refine s_Mo_copyRow_50 mh_0 mh_9 (fun _ => ⟨rfl, rfl, rfl⟩) ?_ ?_ ?_
      all_goals exact fun c => absurd (by decide) c
    | succ e ih =>
      intro k hk
      have hgt : ¬ (12 : Int32) ≤ nI k := i_ge (a := 12) (by decide) (by omega) (by omega)
      refine s_Mo_copyRow_50 mh_0 mh_9 (fun c => absurd c hgt) (fun _ => by rw [i_12]; exact vp_in_nI (by omega) (by decide)) (fun _ => by rw [i_12]; exact vp_in_nI (by omega) (by decide)) (fun _ => ?_)
      rw [i_12, i_12, nI_clamp (by omega), nI_clamp (by omega), mu_9, nI_1, va_uu]
      rw [show va_up al 9 (cpR (al 9) f s k) 9 = cpR (al 9) f s k from rfl, cpR_s _ (by omega)]
      exact ih (k + 1) (by omega)
  have h0 := key 12 0 rfl
  rw [cpR_0, va_id] at h0
  have cf : (nI f).toNatClampNeg = f := nI_clamp (by omega)
  have cs : (nI s).toNatClampNeg = s := nI_clamp (by omega)
  have inf : vp_in (nI f) 80 := vp_in_nI hf (by decide)
  have ins : vp_in (nI s) 80 := vp_in_nI hs (by decide)
  refine Cal.of (by decide) (Nat.le_of_ble_eq_true rfl) (s_Mo_copyRow_0 mh_0 mh_5 mh_6 mh_7 mh_8 inf ins inf ins inf ins (by rw [cf, hb]; exact bI_nar b) inf ins ?_)
  rw [cf, cs, mu_5, mu_6, mu_7, mu_8]
  exact h0
theorem cp_o {f s q : Nat} {x : PRow} (hq : q ≠ s) (h : rA ai al q x) : rA (cpI ai f s) (va_up al 9 (cpR (al 9) f s 12)) q x := by
  refine rA_k h ?_ ?_ ?_ ?_ (fun j hj => ?_)
  · simp [cpI, va_up, upd, hq]
  · simp [cpI, va_up, upd, hq]
  · simp [cpI, va_up, upd, hq]
  · simp [cpI, va_up, upd, hq]
  · simp only [va_up, if_true]
    unfold cpR
    rw [if_neg (by omega)]
theorem cp_s {f s : Nat} {x : PRow} (h : rA ai al f x) : rA (cpI ai f s) (va_up al 9 (cpR (al 9) f s 12)) s x := by
  obtain ⟨a1, a2, a3, a4, a5, a6, a7, a8⟩ := h
  refine ⟨by simp [cpI, va_up, upd, a1], by simp [cpI, va_up, upd, a2], by simp [cpI, va_up, upd, a3], by simp [cpI, va_up, upd, a4], fun j hj => ?_, a6, a7, a8⟩
  simp only [va_up, if_true]
  unfold cpR
  rw [if_pos (by omega), show 12 * s + j - 12 * s = j by omega]
  exact a5 j hj
theorem cp_f (f s : Nat) : fI ai (cpI ai f s) := fun k h5 h6 h7 h8 => by simp [cpI, va_up, h5, h6, h7, h8]
/-- the rows of pending ids are marked -/
def mkB (g : Nat → Bool) (x : PRow) : PRow := (x.1, x.2.1, x.2.2.1 || g x.1, x.2.2.2)
def nwR (pn : Nat → Nat) (pt : Nat → List Int64) (s k : Nat) : List PRow := ((List.range k).filter (fun i => pn i == 1)).map (fun i => ((i, s, false, pt i) : PRow))
theorem nwR_s (pn : Nat → Nat) (pt : Nat → List Int64) (s k : Nat) : nwR pn pt s (k + 1) = nwR pn pt s k ++ (if pn k = 1 then [(k, s, false, pt k)] else []) := by
  unfold nwR
  rw [List.range_succ, List.filter_append, List.map_append]
  congr 1
  by_cases g : pn k = 1
  · simp [g]
  · simp [g]
theorem nwR_len (pn : Nat → Nat) (pt : Nat → List Int64) (s k : Nat) : (nwR pn pt s k).length ≤ k := by
  unfold nwR
  rw [List.length_map]
  have := List.length_filter_le (fun i => pn i == 1) (List.range k)
  rw [List.length_range] at this
  exact this
/-- what is pending, in cells -/
def pdA (ai : Nat → Nat → Int32) (al : Nat → Nat → Int64) (pn : Nat → Nat) (pt : Nat → List Int64) : Prop := ∀ i, i < 12 → ai 2 i = nI (pn i) ∧ pn i ≤ 2 ∧ (pn i = 1 → ai 3 i = nI (pt i).length ∧ (pt i).length ≤ 12 ∧ ∀ j, j < (pt i).length → al 4 (12 * i + j) = tg (pt i) j)
def hpQ (n : Nat) (B : ev_H) (r : Nat) (d st fu wr to he re we : Int32) (ai : Nat → Nat → Int32) (al : Nat → Nat → Int64) (rl : List PRow) (se : Nat) : Option Value → Nat → ev_H → Prop := fun v n' F' => v = none ∧ n' = n ∧ ∃ ai' al', F' = (moH B r d (nI rl.length) (nI se) st fu wr to he re we ai' al') ∧ (∀ k, k ≠ 2 → k ≠ 5 → k ≠ 6 → k ≠ 7 → k ≠ 8 → ai' k = ai k) ∧ fL al al' ∧ rwR ai' al' rl ∧ ∀ i, i < 12 → ai' 2 i = 0
theorem c_Mo_happen {rl : List PRow} {s : Nat} {pn : Nat → Nat} {pt : Nat → List Int64} (hr : rwR ai al rl) (hp : pdA ai al pn pt) (h80 : rl.length ≤ 80) (h66 : ∀ i, i < 12 → pn i = 1 → rl.length ≤ 66) (hs : s < 8) : Cal l X M_Mo_happen 0 0 [.ref r] n (moH B r d (nI rl.length) (nI s) st fu wr to he re we ai al) (hpQ n B r d st fu wr to he re we ai al (rl.map (mkB (fun i => pn i != 0)) ++ nwR pn pt s 12) (if (nwR pn pt s 12) = [] then s else s + 1)) := by
  -- the new rows
  have key2 : ∀ (u k : Nat), k + u = 12 → ∀ (ai' : Nat → Nat → Int32) (al' : Nat → Nat → Int64) (i1 : Int32), (i1 = 0 ↔ nwR pn pt s k = []) → (∀ q, q ≠ 2 → q ≠ 5 → q ≠ 6 → q ≠ 7 → q ≠ 8 → ai' q = ai q) → fL al al' → rwR ai' al' (rl.map (mkB (fun i => pn i != 0)) ++ nwR pn pt s k) → (∀ i, i < k → ai' 2 i = 0) → (∀ i, k ≤ i → ai' 2 i = ai 2 i) → Ev l X M_Mo_happen 0 0 54 [(0, .ref r), (1, .int i1), (2, .int (nI k))] [] n (moH B r d (nI (rl.map (mkB (fun i => pn i != 0)) ++ nwR pn pt s k).length) (nI s) st fu wr to he re we ai' al') (ev_mq X (hpQ n B r d st fu wr to he re we ai al (rl.map (mkB (fun i => pn i != 0)) ++ nwR pn pt s 12) (if (nwR pn pt s 12) = [] then s else s + 1))) := by
    intro u
    induction u with
    | zero =>
      intro k hk ai' al' i1 h1 hI hL hR hz ho
      have e1 : k = 12 := by omega
      subst e1
      refine s_Mo_happen_54 mh_0 mh_2 mh_5 mh_6 mh_7 mh_3 mh_8 (fun _ a => ?_) (fun _ a => ?_) ?_ ?_ ?_ ?_ ?_ ?_ ?_ ?_ ?_
      · rw [mu_o, if_pos (h1.mp a)]
        exact ⟨rfl, rfl, ai', al', rfl, hI, hL, hR, hz⟩
      · rw [mu_o, if_neg (fun z => a (h1.mpr z)), nI_1]
        exact ⟨rfl, rfl, ai', al', rfl, hI, hL, hR, hz⟩
      all_goals exact fun c => absurd (by decide) c
    | succ u ih =>
      intro k hk ai' al' i1 h1 hI hL hR hz ho
      have hgt : ¬ (12 : Int32) ≤ nI k := i_ge (a := 12) (by decide) (by omega) (by omega)
      have ck : (nI k).toNatClampNeg = k := nI_clamp (by omega)
      have ink : vp_in (nI k) 12 := vp_in_nI (by omega) (by decide)
      obtain ⟨p1, p2, p3⟩ := hp k (by omega)
      have e2 : ai' 2 k = nI (pn k) := by rw [ho k (Nat.le_refl _)]; exact p1
      have is1 : ai' 2 k = 1 ↔ pn k = 1 := by rw [e2]; exact nI_eq (b := 1) (by omega) (by decide)
      have hih := ih (k + 1) (by omega)
      rw [nwR_s] at hih
      have hlen : (rl.map (mkB (fun i => pn i != 0)) ++ nwR pn pt s k).length ≤ rl.length + k := by
        have := nwR_len pn pt s k
        simp
        exact this
      have hz2 : ∀ (ai2 : Nat → Nat → Int32), ai2 2 = upd (ai' 2) k 0 → (∀ i, i < k + 1 → ai2 2 i = 0) ∧ (∀ i, k + 1 ≤ i → ai2 2 i = ai 2 i) := fun ai2 e => by
        constructor
        · intro i hi
          rw [e]
          by_cases z : i = k
          · simp [upd, z]
          · simp [upd, z, hz i (by omega)]
        · intro i hi
          rw [e]
          have : i ≠ k := by omega
          simp [upd, this, ho i (by omega)]
      refine s_Mo_happen_54 mh_0 mh_2 mh_5 mh_6 mh_7 mh_3 mh_8 (fun c => absurd c hgt) (fun c => absurd c hgt) (fun _ => ink) (fun _ _ => ink) (fun _ a => ?_) (fun _ a => ?_) (fun _ a => ?_) (fun _ a => ?_) (fun _ _ => ink) (fun _ a => ?_) (fun _ a => ?_)
      · rw [ck, is1] at a
        rw [ck, mu_2, nI_1]
        rw [if_neg a, List.append_nil] at hih
        have hz3 := hz2 (va_up ai' 2 (upd (ai' 2) k 0)) (by simp [va_up])
        refine hih _ _ _ h1 (fun q a2 a5 a6 a7 a8 => ?_) hL (fun q x hx => ?_) hz3.1 hz3.2
        · rw [← hI q a2 a5 a6 a7 a8]
          simp [va_up, a2]
        · exact rA_k (hR q x hx) (by simp [va_up]) (by simp [va_up]) (by simp [va_up]) (by simp [va_up]) (fun _ _ => rfl)
      · rw [ck, is1] at a
        have := h66 k (by omega) a
        exact vp_in_nI (by omega) (by decide)
      · rw [ck, is1] at a
        have := h66 k (by omega) a
        exact vp_in_nI (by omega) (by decide)
      · rw [ck, is1] at a
        have := h66 k (by omega) a
        exact vp_in_nI (by omega) (by decide)
      · rw [ck, is1] at a
        have := h66 k (by omega) a
        exact vp_in_nI (by omega) (by decide)
      · rw [ck, is1] at a
        have h66' := h66 k (by omega) a
        obtain ⟨q1, q2, q3⟩ := p3 a
        rw [if_pos a] at hih
        generalize hN : (rl.map (mkB (fun i => pn i != 0)) ++ nwR pn pt s k).length = N at hlen ⊢
        have cN : (nI N).toNatClampNeg = N := nI_clamp (by omega)
        rw [ck, cN, mu_5, mu_6, mu_7, mu_8]
        generalize ha2 : va_up (va_up (va_up (va_up ai' 5 (upd (ai' 5) N (nI k))) 6 (upd (ai' 6) N (nI s))) 7 (upd (ai' 7) N 0)) 8 (upd (ai' 8) N (ai' 3 k)) = ai2
        have e3 : ai' 3 = ai 3 := hI 3 (by decide) (by decide) (by decide) (by decide) (by decide)
        have x5 : ai2 5 = upd (ai' 5) N (nI k) := by rw [← ha2]; simp [va_up]
        have x6 : ai2 6 = upd (ai' 6) N (nI s) := by rw [← ha2]; simp [va_up]
        have x7 : ai2 7 = upd (ai' 7) N 0 := by rw [← ha2]; simp [va_up]
        have x8 : ai2 8 = upd (ai' 8) N (nI (pt k).length) := by rw [← ha2, ← q1, ← e3]; simp [va_up]
        have x2 : ai2 2 = ai' 2 := by rw [← ha2]; simp [va_up]
        have x3 : ai2 3 = ai 3 := by rw [← ha2, ← e3]; simp [va_up]
        have xo : ∀ q, q ≠ 5 → q ≠ 6 → q ≠ 7 → q ≠ 8 → ai2 q = ai' q := fun q a5 a6 a7 a8 => by rw [← ha2]; simp [va_up, a5, a6, a7, a8]
        -- its terms
        have key3 : ∀ (v j : Nat), j + v = (pt k).length → ∀ (al2 : Nat → Nat → Int64), fL al al2 → (∀ i, i < 12 * N → al2 9 i = al' 9 i) → (∀ i, i < j → al2 9 (12 * N + i) = tg (pt k) i) → Ev l X M_Mo_happen 0 0 122 [(0, .ref r), (1, .int 1), (2, .int (nI k)), (3, .int (nI j))] [] n (moH B r d (nI N) (nI s) st fu wr to he re we ai2 al2) (ev_mq X (hpQ n B r d st fu wr to he re we ai al (rl.map (mkB (fun i => pn i != 0)) ++ nwR pn pt s 12) (if (nwR pn pt s 12) = [] then s else s + 1))) := by
          intro v
          induction v with
          | zero =>
            intro j hj al2 hL2 hlo hnew
            have e1 : j = (pt k).length := by omega
            subst e1
            have c3 : ai2 3 k = nI (pt k).length := by rw [x3]; exact q1
            have hle : ai2 3 k ≤ nI (pt k).length := by rw [c3]; exact (nI_leI (by omega) (by omega)).mpr (Nat.le_refl _)
            refine s_Mo_happen_122 mh_0 mh_3 mh_2 mh_4 mh_9 ink (fun _ => ink) (fun _ => ?_) ?_ ?_ ?_
            · rw [ck, mu_o, mu_2, nI_1, nI_1]
              have hz3 := hz2 (va_up ai2 2 (upd (ai2 2) k 0)) (by rw [x2]; simp [va_up])
              have hlN : (rl.map (mkB (fun i => pn i != 0)) ++ (nwR pn pt s k ++ [(k, s, false, pt k)])).length = N + 1 := by rw [← hN]; simp; omega
              have := hih (va_up ai2 2 (upd (ai2 2) k 0)) al2 1 ⟨fun z => absurd z (by decide), fun z => by simp at z⟩ (fun q a2 a5 a6 a7 a8 => by rw [← hI q a2 a5 a6 a7 a8, ← xo q a5 a6 a7 a8]; simp [va_up, a2]) hL2 ?_ hz3.1 hz3.2
              · rw [hlN] at this
                exact this
              · rw [← List.append_assoc]
                refine rw_app hR ?_ (fun q z hq hz => ?_)
                · rw [hN]
                  refine ⟨by simp [va_up, x5, upd], by simp [va_up, x6, upd], by simp [va_up, x7, upd]; rfl, by simp [va_up, x8, upd], fun i hi => hnew i hi, by simp only; omega, hs, q2⟩
                · have hqn : q ≠ N := by omega
                  refine rA_k hz (by simp [va_up, x5, upd, hqn]) (by simp [va_up, x6, upd, hqn]) (by simp [va_up, x7, upd, hqn]) (by simp [va_up, x8, upd, hqn]) (fun i hi => hlo _ (by omega))
            all_goals (rw [ck]; exact fun z => absurd hle z)
          | succ v ihv =>
            intro j hj al2 hL2 hlo hnew
            have c3 : ai2 3 k = nI (pt k).length := by rw [x3]; exact q1
            have hgt3 : ¬ ai2 3 k ≤ nI j := by rw [c3]; exact i_ge (by omega) (by omega) (by omega)
            have e4 : al2 4 = al 4 := hL2 4 (by decide)
            refine s_Mo_happen_122 mh_0 mh_3 mh_2 mh_4 mh_9 ink (fun c => ?_) (fun c => ?_) (fun _ => by rw [i_12]; exact vp_in_nI (by omega) (by decide)) (fun _ => by rw [i_12]; exact vp_in_nI (by omega) (by decide)) (fun _ => ?_)
            · rw [ck] at c; exact absurd c hgt3
            · rw [ck] at c; exact absurd c hgt3
            · rw [i_12, i_12, nI_clamp (by omega), nI_clamp (by omega), mu_9, nI_1]
              refine ihv (j + 1) (by omega) _ (fun q hq => by rw [← hL2 q hq]; simp [va_up, hq]) (fun i hi => ?_) (fun i hi => ?_)
              · have : i ≠ 12 * N + j := by omega
                rw [← hlo i hi]
                simp [va_up, vp_updL, this]
              · by_cases z : i = j
                · subst z
                  simp only [va_up, if_true, vp_updL]
                  rw [e4]
                  exact q3 i (by omega)
                · have z' : 12 * N + i ≠ 12 * N + j := by omega
                  rw [← hnew i (by omega)]
                  simp [va_up, vp_updL, z]
        exact key3 (pt k).length 0 (by omega) al' hL (fun _ _ => rfl) (fun i hi => absurd hi (Nat.not_lt_zero _))
  -- the marks
  have key1 : ∀ (t a : List PRow) (ai' : Nat → Nat → Int32), rl = a ++ t → (∀ q, q ≠ 7 → ai' q = ai q) → rwR ai' al (a.map (mkB (fun i => pn i != 0)) ++ t) → Ev l X M_Mo_happen 0 0 2 [(0, .ref r), (1, .int (nI a.length))] [] n (moH B r d (nI rl.length) (nI s) st fu wr to he re we ai' al) (ev_mq X (hpQ n B r d st fu wr to he re we ai al (rl.map (mkB (fun i => pn i != 0)) ++ nwR pn pt s 12) (if (nwR pn pt s 12) = [] then s else s + 1))) := by
    intro t
    induction t with
    | nil =>
      intro a ai' hl hI hR
      rw [List.append_nil] at hl hR
      subst hl
      have hle : nI rl.length ≤ nI rl.length := (nI_leI (by omega) (by omega)).mpr (Nat.le_refl _)
      have h0 := key2 12 0 rfl ai' al 0 ⟨fun _ => rfl, fun _ => rfl⟩ (fun q _ _ _ a7 _ => hI q a7) (fun _ _ => rfl) (by simpa [nwR] using hR) (fun i hi => absurd hi (Nat.not_lt_zero _)) (fun i _ => by rw [hI 2 (by decide)])
      have e0 : (rl.map (mkB (fun i => pn i != 0)) ++ nwR pn pt s 0).length = rl.length := by simp [nwR]
      rw [e0] at h0
      refine s_Mo_happen_2 mh_0 mh_7 mh_5 mh_2 (fun _ => h0) ?_ ?_ ?_ ?_ ?_ ?_ ?_ ?_ ?_
      all_goals exact fun c => absurd hle c
    | cons x t ih =>
      intro a ai' hl hI hR
      have hll : rl.length = a.length + (t.length + 1) := by rw [hl]; simp
      have hgt : ¬ nI rl.length ≤ nI a.length := i_ge (by omega) (by omega) (by omega)
      have ca : (nI a.length).toNatClampNeg = a.length := nI_clamp (by omega)
      have ina : vp_in (nI a.length) 80 := vp_in_nI (by omega) (by decide)
      have hx := hR a.length x (by have := get_mid (a.map (mkB (fun i => pn i != 0))) x t; rw [List.length_map] at this; exact this)
      obtain ⟨b1, b2, b3, b4, b5, b6, b7, b8⟩ := id hx
      obtain ⟨p1, p2, p3⟩ := hp x.1 b6
      have e2 : ai' 2 = ai 2 := hI 2 (by decide)
      have nz : (pn x.1 != 0) = true ↔ ¬ pn x.1 = 0 := by simp
      have next : ∀ bb : Bool, bb = (x.2.2.1 || pn x.1 != 0) → Ev l X M_Mo_happen 0 0 2 [(0, .ref r), (1, .int (nI (a.length + 1)))] [] n (moH B r d (nI rl.length) (nI s) st fu wr to he re we (va_up ai' 7 (upd (ai' 7) a.length (bI bb))) al) (ev_mq X (hpQ n B r d st fu wr to he re we ai al (rl.map (mkB (fun i => pn i != 0)) ++ nwR pn pt s 12) (if (nwR pn pt s 12) = [] then s else s + 1))) := by
        intro bb hb
        have := ih (a ++ [x]) (va_up ai' 7 (upd (ai' 7) a.length (bI bb))) (by rw [hl]; simp) (fun q hq => by rw [← hI q hq]; simp [va_up, hq]) ?_
        · rw [show (a ++ [x]).length = a.length + 1 by simp] at this
          exact this
        · rw [List.map_append, List.append_assoc]
          refine rw_mid (y := mkB (fun i => pn i != 0) x) hR ?_ (fun q z hq hz => ?_)
          · rw [List.length_map]
            exact ⟨by simpa [va_up, mkB] using b1, by simpa [va_up, mkB] using b2, by simp [va_up, mkB, upd, hb], by simpa [va_up, mkB] using b4, fun j hj => b5 j hj, b6, b7, b8⟩
          · rw [List.length_map] at hq
            exact rA_k hz (by simp [va_up]) (by simp [va_up]) (by simp [va_up, upd, hq]) (by simp [va_up]) (fun _ _ => rfl)
      refine s_Mo_happen_2 mh_0 mh_7 mh_5 mh_2 (fun c => absurd c hgt) (fun _ => ina) (fun _ _ => ina) (fun _ c => ?_) (fun _ _ => ina) (fun _ _ => by rw [ca, b1]; exact vp_in_nI b6 (by decide)) (fun _ _ _ => ina) (fun _ c e => ?_) (fun _ _ _ => ina) (fun _ c e => ?_)
      · rw [ca, b3] at c
        rw [ca, mu_7, nI_1]
        exact next true (by rw [bI_n0 c]; rfl)
      · rw [ca, b3] at c
        rw [ca, b1, nI_clamp (by omega), e2, p1] at e
        have e0 : pn x.1 = 0 := (nI_eq (b := 0) (by omega) (by decide)).mp e
        rw [ca, mu_7, nI_1]
        exact next false (by rw [bI_1.mp c, e0]; rfl)
      · rw [ca, b3] at c
        rw [ca, b1, nI_clamp (by omega), e2, p1] at e
        have e0 : ¬ pn x.1 = 0 := fun z => e (by rw [z]; rfl)
        rw [ca, mu_7, nI_1]
        exact next true (by rw [nz.mpr e0, Bool.or_true])
  exact Cal.of (by decide) (Nat.le_of_ble_eq_true rfl) (s_Mo_happen_0 (key1 rl [] ai rfl (fun _ _ => rfl) hr))
end MoK
