/-! pure: the stack of queries, its steps and the reference's tokens -/
abbrev PTok : Type := Nat × Int64
def tokOf (x : QStep) : List PTok := if x.1 = 3 then (if x.2.length = 1 then [(0, tg x.2 0)] else x.2.map (fun t => (0, t)) ++ [(1, (nI x.2.length).toInt64)]) else [(x.1 + 2, 0)]
/-- the depths on the stack behind a step, the uppermost first -/
def stp (x : QStep) (ds : List Nat) : Option (List Nat) :=
  if x.1 = 3 then (if x.2.length = 1 then (if ds.length < 8 then some (0 :: ds) else none) else if 2 ≤ x.2.length ∧ ds.length + x.2.length ≤ 8 then some (1 :: ds) else none)
  else if x.1 = 2 then (match ds with | d :: t => some ((d + 1) :: t) | [] => none)
  else if x.1 ≤ 1 then (match ds with | a :: b :: t => some ((max a b + 1) :: t) | _ => none)
  else none
/-- the same behind all steps, the last of them first -/
def dpR : List QStep → Option (List Nat)
  | [] => some []
  | x :: t => (dpR t).bind (stp x)
def dpL (dp : Nat → Nat) (h : Nat) : List Nat := (List.range h).reverse.map dp
theorem dpL_s (dp : Nat → Nat) (h : Nat) : dpL dp (h + 1) = dp h :: dpL dp h := by
  unfold dpL
  rw [List.range_succ, List.reverse_append]
  rfl
theorem dpL_len (dp : Nat → Nat) (h : Nat) : (dpL dp h).length = h := by simp [dpL]
theorem dpL_cong {f g : Nat → Nat} : ∀ {h : Nat}, (∀ i, i < h → f i = g i) → dpL f h = dpL g h
  | 0, _ => rfl
  | h + 1, e => by
    rw [dpL_s, dpL_s, e h (by omega), dpL_cong (h := h) (fun i hi => e i (by omega))]
theorem dpL_up (dp : Nat → Nat) (h a : Nat) : dpL (upn dp h a) (h + 1) = a :: dpL dp h := by
  rw [dpL_s]
  unfold upn
  rw [if_pos rfl]
  congr 1
  exact dpL_cong fun i hi => if_neg (by omega)
/-- the steps and tokens of a stack of h queries of those depths -/
def qR (ss : List QStep) (h : Nat) (dp : Nat → Nat) (tk : List PTok) : Prop := tk = ss.flatMap tokOf ∧ dpR ss.reverse = some (dpL dp h) ∧ h ≤ 8
theorem qR_0 (dp : Nat → Nat) : qR [] 0 dp [] := ⟨rfl, rfl, by omega⟩
theorem qR_term {ss : List QStep} {h : Nat} {dp : Nat → Nat} {tk : List PTok} (t : Int64) (H : qR ss h dp tk) (h8 : h < 8) : qR (ss ++ [(3, [t])]) (h + 1) (upn dp h 0) (tk ++ [(0, t)]) := by
  obtain ⟨h1, h2, h3⟩ := H
  refine ⟨?_, ?_, by omega⟩
  · rw [List.flatMap_append, ← h1]
    rfl
  · rw [List.reverse_append, dpL_up]
    show (dpR ss.reverse).bind _ = _
    rw [h2]
    show stp (3, [t]) (dpL dp h) = _
    unfold stp
    rw [if_pos rfl, if_pos (show [t].length = 1 from rfl), if_pos (by rw [dpL_len]; exact h8)]
/-- only a term is 0 deep -/
theorem stp_0 {x : QStep} {e ds : List Nat} (h : stp x e = some (0 :: ds)) : ∃ t, x = (3, [t]) ∧ e = ds := by
  unfold stp at h
  split at h
  · rename_i g
    split at h
    · rename_i g2
      split at h
      · obtain ⟨a, b⟩ := x
        match b, g2 with
        | [t], _ =>
          simp only at g
          subst g
          simp at h
          exact ⟨t, rfl, h⟩
      · cases h
    · split at h
      · simp at h
      · cases h
  · split at h
    · split at h
      · simp at h
      · cases h
    · split at h
      · split at h
        · simp at h
        · cases h
      · cases h
theorem dpR_terms : ∀ (p : Nat) (rs : List QStep) (ds : List Nat), dpR rs = some (List.replicate p 0 ++ ds) → ∃ (row : List Int64) (r0 : List QStep), rs = row.map (fun t => (3, [t])) ++ r0 ∧ row.length = p ∧ dpR r0 = some ds
  | 0, rs, ds, h => ⟨[], rs, rfl, rfl, h⟩
  | p + 1, rs, ds, h => by
    rw [List.replicate_succ, List.cons_append] at h
    match rs, h with
    | [], h => simp [dpR] at h
    | x :: t, h =>
      unfold dpR at h
      cases hd : dpR t with
      | none => rw [hd] at h; cases h
      | some e =>
        rw [hd] at h
        obtain ⟨a, rfl, e2⟩ := stp_0 h
        rw [e2] at hd
        obtain ⟨row, r0, e3, e4, e5⟩ := dpR_terms p t ds hd
        exact ⟨a :: row, r0, by rw [e3]; rfl, by simp [e4], e5⟩
theorem dpL_zero {dp : Nat → Nat} : ∀ {p h : Nat}, p ≤ h → (∀ j, h - p ≤ j → j < h → dp j = 0) → dpL dp h = List.replicate p 0 ++ dpL dp (h - p)
  | 0, h, _, _ => by simp
  | p + 1, h, hp, hz => by
    obtain ⟨g, rfl⟩ : ∃ g, h = g + 1 := ⟨h - 1, by omega⟩
    rw [dpL_s, hz g (by omega) (by omega), dpL_zero (p := p) (h := g) (by omega) (fun j h1 h2 => hz j (by omega) (by omega)), List.replicate_succ, List.cons_append, show g + 1 - (p + 1) = g - p by omega]
theorem fm_terms : ∀ row : List Int64, (row.map (fun t => ((3, [t]) : QStep))).flatMap tokOf = row.map (fun t => (0, t))
  | [] => rfl
  | t :: r => by
    rw [List.map_cons, List.flatMap_cons, fm_terms r]
    rfl
theorem qR_split {ss : List QStep} {h p : Nat} {dp : Nat → Nat} {tk : List PTok} (H : qR ss h dp tk) (hp : p ≤ h) (hz : ∀ j, h - p ≤ j → j < h → dp j = 0) : ∃ (s0 : List QStep) (row : List Int64), ss = s0 ++ row.map (fun t => ((3, [t]) : QStep)) ∧ row.length = p ∧ dpR s0.reverse = some (dpL dp (h - p)) ∧ tk = s0.flatMap tokOf ++ row.map (fun t => (0, t)) := by
  obtain ⟨h1, h2, h3⟩ := H
  rw [dpL_zero hp hz] at h2
  obtain ⟨row, r0, e1, e2, e3⟩ := dpR_terms p _ _ h2
  have e4 : ss = r0.reverse ++ row.reverse.map (fun t => ((3, [t]) : QStep)) := by
    rw [← List.reverse_reverse ss, e1, List.reverse_append, List.map_reverse]
  refine ⟨r0.reverse, row.reverse, e4, by simp [e2], by rw [List.reverse_reverse]; exact e3, ?_⟩
  rw [h1, e4, List.flatMap_append, fm_terms]
theorem qR_phrase {s0 : List QStep} {row : List Int64} {h p : Nat} {dp : Nat → Nat} {tk : List PTok} (hp : p ≤ h) (h2p : 2 ≤ p) (h8 : h ≤ 8) (e2 : row.length = p) (e3 : dpR s0.reverse = some (dpL dp (h - p))) (e4 : tk = s0.flatMap tokOf ++ row.map (fun t => (0, t))) : qR (s0 ++ [(3, row)]) (h - p + 1) (upn dp (h - p) 1) (tk ++ [(1, (nI p).toInt64)]) := by
  refine ⟨?_, ?_, by omega⟩
  · rw [List.flatMap_append, e4, List.append_assoc]
    congr 1
    show _ = tokOf (3, row) ++ []
    rw [List.append_nil]
    unfold tokOf
    rw [if_pos rfl, if_neg (by simp only; omega), e2]
  · rw [List.reverse_append, dpL_up]
    show (dpR s0.reverse).bind _ = _
    rw [e3]
    show stp (3, row) _ = _
    unfold stp
    rw [if_pos rfl, if_neg (by simp only; omega), if_pos (by rw [dpL_len]; simp only; omega)]
theorem qR_not {ss : List QStep} {h : Nat} {dp : Nat → Nat} {tk : List PTok} (H : qR ss h dp tk) (h1 : 1 ≤ h) : qR (ss ++ [(2, [])]) (h - 1 + 1) (upn dp (h - 1) (dp (h - 1) + 1)) (tk ++ [(4, 0)]) := by
  obtain ⟨a1, a2, a3⟩ := H
  refine ⟨?_, ?_, by omega⟩
  · rw [List.flatMap_append, ← a1]
    rfl
  · rw [List.reverse_append, dpL_up]
    show (dpR ss.reverse).bind _ = _
    obtain ⟨g, rfl⟩ : ∃ g, h = g + 1 := ⟨h - 1, by omega⟩
    rw [a2, dpL_s]
    rfl
theorem qR_two {ss : List QStep} {h k : Nat} {dp : Nat → Nat} {tk : List PTok} (H : qR ss h dp tk) (h1 : 2 ≤ h) (hk : k ≤ 1) : qR (ss ++ [(k, [])]) (h - 2 + 1) (upn dp (h - 2) (max (dp (h - 2)) (dp (h - 1)) + 1)) (tk ++ [(2 + k, 0)]) := by
  obtain ⟨a1, a2, a3⟩ := H
  refine ⟨?_, ?_, by omega⟩
  · rw [List.flatMap_append, ← a1]
    congr 1
    show _ = tokOf (k, []) ++ []
    rw [List.append_nil]
    unfold tokOf
    rw [if_neg (by simp only; omega), Nat.add_comm]
  · rw [List.reverse_append, dpL_up]
    show (dpR ss.reverse).bind _ = _
    obtain ⟨g, rfl⟩ : ∃ g, h = g + 2 := ⟨h - 2, by omega⟩
    rw [a2, dpL_s, dpL_s]
    show stp (k, []) (dp (g + 1) :: dp g :: dpL dp g) = _
    unfold stp
    rw [if_neg (by simp only; omega), if_neg (by simp only; omega), if_pos (by simpa using hk)]
    rw [Nat.max_comm]
    rfl
theorem mxd_0 {dp : Nat → Nat} {a : Nat} : ∀ {k : Nat}, mxd dp a k = 0 ↔ ∀ j, a ≤ j → j < k → dp j = 0
  | 0 => by simp [mxd]
  | k + 1 => by
    unfold mxd
    by_cases g : a ≤ k
    · rw [if_pos g]
      have ih := mxd_0 (dp := dp) (a := a) (k := k)
      constructor
      · intro h j h1 h2
        by_cases e : j = k
        · subst e
          omega
        · exact ih.mp (by omega) j h1 (by omega)
      · intro h
        have := ih.mpr (fun j h1 h2 => h j h1 (by omega))
        have := h k g (by omega)
        omega
    · rw [if_neg g]
      exact ⟨fun _ j h1 h2 => by omega, fun _ => rfl⟩
theorem mxd_1 {dp : Nat → Nat} {h : Nat} (h1 : 1 ≤ h) : mxd dp (h - 1) h = dp (h - 1) := by
  obtain ⟨g, rfl⟩ : ∃ g, h = g + 1 := ⟨h - 1, by omega⟩
  rw [show g + 1 - 1 = g by omega]
  unfold mxd
  rw [if_pos (Nat.le_refl _)]
  have : mxd dp g g = 0 := mxd_0.mpr fun j a b => by omega
  omega
theorem mxd_2 {dp : Nat → Nat} {h : Nat} (h1 : 2 ≤ h) : mxd dp (h - 2) h = max (dp (h - 2)) (dp (h - 1)) := by
  obtain ⟨g, rfl⟩ : ∃ g, h = g + 2 := ⟨h - 2, by omega⟩
  rw [show g + 2 - 2 = g by omega, show g + 2 - 1 = g + 1 by omega]
  show (if g ≤ g + 1 then max (mxd dp g (g + 1)) (dp (g + 1)) else 0) = _
  rw [if_pos (by omega)]
  have := mxd_1 (dp := dp) (h := g + 1) (by omega)
  rw [show g + 1 - 1 = g by omega] at this
  rw [this]
/-- the answers on the stack behind a step, the uppermost first -/
def evS (ts : List Int64) (x : QStep) (bs : List Bool) : List Bool :=
  if x.1 = 3 then dP ts x.2 :: bs
  else if x.1 = 2 then (match bs with | b :: t => (!b) :: t | [] => [])
  else (match bs with | a :: b :: t => (if x.1 = 0 then b && a else b || a) :: t | _ => [])
def evR (ts : List Int64) : List QStep → List Bool
  | [] => []
  | x :: t => evS ts x (evR ts t)
def enc : List Bool → Nat
  | [] => 0
  | b :: t => 2 * enc t + (if b then 1 else 0)
theorem enc_lt : ∀ bs : List Bool, enc bs < 2 ^ bs.length
  | [] => by simp [enc]
  | b :: t => by
    have := enc_lt t
    simp only [enc, List.length_cons, Nat.pow_succ]
    split <;> omega
def ansR (ts : List Int64) : List QStep → Nat
  | [] => 0
  | x :: t => ansB x.1 (ansR ts t) (dP ts x.2)
theorem ansK_R (ss : List QStep) (ts : List Int64) : ∀ k, k ≤ ss.length → ansK ss ts k = ansR ts (ss.take k).reverse
  | 0, _ => by simp [ansK, ansR]
  | k + 1, hk => by
    have e : ss.take (k + 1) = ss.take k ++ [pAt ss k] := by
      rw [List.take_succ_eq_append_getElem (by omega)]
      congr 2
      unfold pAt
      rw [List.getD_eq_getElem?_getD, List.getElem?_eq_getElem (by omega)]
      rfl
    rw [e, List.reverse_append]
    show ansB _ _ _ = ansB _ _ _
    rw [ansK_R ss ts k (by omega)]
    rfl
theorem ev_two {ts : List Int64} {k : Nat} {r : List Int64} {a b : Bool} {t : List Bool} (hk : k ≤ 1) : ansB k (enc (a :: b :: t)) (dP ts r) = enc ((if k = 0 then b && a else b || a) :: t) := by
  have hk' : k = 0 ∨ k = 1 := by omega
  rcases hk' with rfl | rfl
  · cases a <;> cases b <;> simp [ansB, enc] <;> omega
  · cases a <;> cases b <;> simp [ansB, enc] <;> omega
theorem ev_not {ts : List Int64} {r : List Int64} {b : Bool} {t : List Bool} : ansB 2 (enc (b :: t)) (dP ts r) = enc ((!b) :: t) := by
  cases b <;> simp [ansB, enc] <;> omega
theorem run_ok (ts : List Int64) : ∀ (rs : List QStep) (ds : List Nat), dpR rs = some ds → ds.length ≤ 8 ∧ (evR ts rs).length = ds.length ∧ ansR ts rs = enc (evR ts rs)
  | [], ds, h => by
    simp [dpR] at h
    subst h
    exact ⟨by simp, rfl, rfl⟩
  | x :: t, ds, h => by
    unfold dpR at h
    cases hd : dpR t with
    | none => rw [hd] at h; cases h
    | some e =>
      rw [hd] at h
      replace h : stp x e = some ds := h
      obtain ⟨i1, i2, i3⟩ := run_ok ts t e hd
      show _ ∧ (evS ts x (evR ts t)).length = _ ∧ ansB x.1 (ansR ts t) (dP ts x.2) = _
      rw [i3]
      show _ ∧ (evS ts x (evR ts t)).length = _ ∧ _ = enc (evS ts x (evR ts t))
      unfold stp at h
      unfold evS
      by_cases g3 : x.1 = 3
      · rw [if_pos g3] at h ⊢
        have e1 : ansB x.1 (enc (evR ts t)) (dP ts x.2) = enc (dP ts x.2 :: evR ts t) := by
          rw [g3]
          simp [ansB, enc]
        split at h
        · split at h
          · cases h
            exact ⟨by simp only [List.length_cons]; omega, by simp [i2], e1⟩
          · cases h
        · split at h
          · cases h
            exact ⟨by simp only [List.length_cons]; omega, by simp [i2], e1⟩
          · cases h
      · rw [if_neg g3] at h ⊢
        by_cases g2 : x.1 = 2
        · rw [if_pos g2] at h ⊢
          match e, h with
          | d :: e', h =>
            cases h
            match hb : evR ts t, i2 with
            | b :: bt, i2 =>
              refine ⟨by simpa using i1, by simpa using i2, ?_⟩
              rw [g2]
              exact ev_not
        · rw [if_neg g2] at h ⊢
          by_cases g1 : x.1 ≤ 1
          · rw [if_pos g1] at h
            match e, h with
            | a :: b :: e', h =>
              cases h
              match hb : evR ts t, i2 with
              | c :: d :: bt, i2 =>
                refine ⟨by simp only [List.length_cons] at i1 ⊢; omega, by simpa using i2, ?_⟩
                exact ev_two g1
          · rw [if_neg g1] at h
            cases h
theorem dpR_tail : ∀ (a b : List QStep) (ds : List Nat), dpR (a ++ b) = some ds → ∃ es, dpR b = some es
  | [], b, ds, h => ⟨ds, h⟩
  | x :: a, b, ds, h => by
    rw [List.cons_append] at h
    unfold dpR at h
    cases hd : dpR (a ++ b) with
    | none => rw [hd] at h; cases h
    | some e => exact dpR_tail a b e hd
/-- the bits of the answers stay few, and the last is what the stack says -/
theorem qR_ans {ss : List QStep} {h : Nat} {dp : Nat → Nat} {tk : List PTok} (ts : List Int64) (H : qR ss h dp tk) : (∀ k, k ≤ ss.length → ansK ss ts k < 512) ∧ (h = 1 → ∃ b, evR ts ss.reverse = [b] ∧ (decide (ansK ss ts ss.length % 2 = 1)) = b) := by
  obtain ⟨h1, h2, h3⟩ := H
  constructor
  · intro k hk
    have e : ss.reverse = (ss.drop k).reverse ++ (ss.take k).reverse := by
      rw [← List.reverse_append, List.take_append_drop]
    rw [e] at h2
    obtain ⟨es, he⟩ := dpR_tail _ _ _ h2
    obtain ⟨i1, i2, i3⟩ := run_ok ts _ _ he
    rw [ansK_R ss ts k hk, i3]
    have := enc_lt (evR ts (ss.take k).reverse)
    have h8 : 2 ^ (evR ts (ss.take k).reverse).length ≤ 2 ^ 8 := Nat.pow_le_pow_right (by decide) (by omega)
    have : 2 ^ 8 = 256 := by decide
    omega
  · intro e
    subst e
    obtain ⟨i1, i2, i3⟩ := run_ok ts _ _ h2
    rw [dpL_len] at i2
    match hb : evR ts ss.reverse, i2 with
    | [b], _ =>
      refine ⟨b, rfl, ?_⟩
      rw [ansK_R ss ts _ (Nat.le_refl _), List.take_length, i3, hb]
      cases b <;> rfl
theorem tok_len (x : QStep) : 1 ≤ (tokOf x).length := by
  unfold tokOf
  split
  · split <;> simp
  · simp
theorem qR_len {ss : List QStep} {h : Nat} {dp : Nat → Nat} {tk : List PTok} (H : qR ss h dp tk) : ss.length ≤ tk.length := by
  rw [H.1]
  clear H
  induction ss with
  | nil => simp
  | cons x t ih =>
    have := tok_len x
    rw [List.flatMap_cons, List.length_append, List.length_cons]
    omega
/-- a stack of terms alone: every one is a step and a token -/
theorem qR_bag {ss : List QStep} {h : Nat} {dp : Nat → Nat} {tk : List PTok} (H : qR ss h dp tk) (hz : ∀ j, j < h → dp j = 0) : ∃ row : List Int64, row.length = h ∧ ss = row.map (fun t => ((3, [t]) : QStep)) ∧ tk = row.map (fun t => (0, t)) := by
  obtain ⟨s0, row, e1, e2, e3, e4⟩ := qR_split (p := h) H (Nat.le_refl _) (fun j _ hj => hz j hj)
  rw [Nat.sub_self] at e3
  have e5 : s0 = [] := by
    cases hs : s0.reverse with
    | nil => simpa using hs
    | cons x t =>
      rw [hs] at e3
      unfold dpR at e3
      cases hd : dpR t with
      | none => rw [hd] at e3; cases e3
      | some e =>
        rw [hd] at e3
        replace e3 : stp x e = some [] := e3
        unfold stp at e3
        exfalso
        split at e3
        · split at e3
          · split at e3 <;> simp at e3
          · split at e3 <;> simp at e3
        · split at e3
          · split at e3 <;> simp at e3
          · split at e3
            · split at e3 <;> simp at e3
            · cases e3
  subst e5
  exact ⟨row, e2, by simpa using e1, by simpa using e4⟩
/-- a term in a document: as a row of one, and counted -/
theorem dX_t2 {ts row : List Int64} : ∀ (k : Nat), dX ts row k = true ↔ ∃ p, p < k ∧ dQ ts row p row.length = true
  | 0 => by simp [dX]
  | k + 1 => by
    unfold dX
    rw [Bool.or_eq_true, dX_t2 k]
    constructor
    · rintro (⟨p, a, b⟩ | h)
      · exact ⟨p, by omega, b⟩
      · exact ⟨k, by omega, h⟩
    · rintro ⟨p, a, b⟩
      by_cases e : p = k
      · subst e
        exact Or.inr b
      · exact Or.inl ⟨p, by omega, b⟩
theorem cn_pos {p : Nat → Bool} : ∀ {k : Nat}, 0 < cn p k ↔ ∃ i, i < k ∧ p i = true
  | 0 => by simp [cn]
  | k + 1 => by
    have ih := cn_pos (p := p) (k := k)
    unfold cn
    constructor
    · intro h
      by_cases g : p k = true
      · exact ⟨k, by omega, g⟩
      · rw [if_neg g] at h
        obtain ⟨i, a, b⟩ := ih.mp h
        exact ⟨i, by omega, b⟩
    · rintro ⟨i, a, b⟩
      by_cases e : i = k
      · subst e
        rw [if_pos b]
        omega
      · have := ih.mpr ⟨i, by omega, b⟩
        omega
theorem dP_1 (ts : List Int64) (t : Int64) : dP ts [t] = decide (0 < dT ts t) := by
  rw [Bool.eq_iff_iff, decide_eq_true_eq]
  unfold dP dT
  rw [dX_t2, cn_pos]
  have e : ts.length + 1 - [t].length = ts.length := by simp
  rw [e]
  constructor
  · rintro ⟨p, a, b⟩
    refine ⟨p, a, ?_⟩
    simp [dQ, tg] at b
    simp [tg, ← b.2, b.1]
  · rintro ⟨p, a, b⟩
    refine ⟨p, a, ?_⟩
    simp [tg] at b
    simp [dQ, tg, b]
