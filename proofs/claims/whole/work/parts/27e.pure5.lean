/-! pure: weights, bounds, candidates -/
theorem rar_le {N f : Nat} (hN : N ≤ 12) : rar N f ≤ 200 := by
  unfold rar
  split
  · omega
  · rename_i hf
    have hx2 : rarX N f ≤ 3328 := Nat.le_trans (Nat.div_le_self _ _) (by omega)
    have hlo := Nat.lt_log2_self (n := rarX N f)
    have hl12 : Nat.log2 (rarX N f) < 12 := by
      by_cases z : rarX N f = 0
      · rw [z]; decide
      · apply Nat.lt_of_not_le
        intro g
        have h1 := Nat.pow_le_pow_right (show 0 < 2 by decide) g
        have h2 := Nat.log2_self_le z
        have e : 2 ^ 12 = 4096 := by decide
        omega
    have : rarX N f * 16 / 2 ^ Nat.log2 (rarX N f) < 32 := by
      rw [Nat.div_lt_iff_lt_mul (Nat.pow_pos (by decide))]
      rw [Nat.pow_succ] at hlo
      omega
    omega
def wAll (lv : List Doc) : Nat := sN (fun i => dL (dAt lv i).2) lv.length
/-- the weight of a term in a document of the live ones -/
def wtL (lv : List Doc) (ts : List Int64) (t : Int64) : Nat := if dT ts t = 0 then 0 else rar lv.length (hol lv t lv.length) * dT ts t * 2200 / (1000 * dT ts t + 300 + (if wAll lv = 0 then 0 else 900 * dL ts * lv.length / wAll lv))
def bdL (lv : List Doc) (t : Int64) : Nat → Nat
  | 0 => 0
  | k + 1 => max (bdL lv t k) (wtL lv (dAt lv k).2 t)
theorem wtL_le {lv : List Doc} {ts : List Int64} {t : Int64} (hN : lv.length ≤ 12) (hl : ts.length ≤ 12) : wtL lv ts t ≤ 5280000 := by
  have hd : dT ts t ≤ 12 := Nat.le_trans (by
    unfold dT
    clear hl
    generalize ts.length = k
    induction k with
    | zero => exact Nat.le_refl _
    | succ k ih =>
      unfold cn
      split <;> omega) hl
  unfold wtL
  split
  · omega
  · refine Nat.le_trans (Nat.div_le_self _ _) ?_
    have h1 := rar_le (N := lv.length) (f := hol lv t lv.length) hN
    have h2 : rar lv.length (hol lv t lv.length) * dT ts t ≤ 200 * 12 := Nat.mul_le_mul h1 hd
    omega
theorem bdL_mono {lv : List Doc} {t : Int64} : ∀ {k i : Nat}, i < k → wtL lv (dAt lv i).2 t ≤ bdL lv t k
  | 0, i, h => by omega
  | k + 1, i, h => by
    unfold bdL
    by_cases e : i = k
    · subst e
      exact Nat.le_max_right _ _
    · exact Nat.le_trans (bdL_mono (k := k) (by omega)) (Nat.le_max_left _ _)
theorem bdL_le {lv : List Doc} {t : Int64} (hN : lv.length ≤ 12) (hl : ∀ i, (dAt lv i).2.length ≤ 12) : ∀ k, bdL lv t k ≤ 5280000
  | 0 => by simp [bdL]
  | k + 1 => by
    have := bdL_le (t := t) hN hl k
    have := wtL_le (lv := lv) (t := t) hN (hl k)
    unfold bdL
    omega
def hasT (row : List Int64) (ts : List Int64) : Bool := row.any (fun t => decide (0 < dT ts t))
def sumW (lv : List Doc) (row ts : List Int64) : Nat := (row.map (fun t => if 0 < dT ts t then wtL lv ts t else 0)).sum
def sumB (lv : List Doc) (row ts : List Int64) : Nat := (row.map (fun t => if 0 < dT ts t then bdL lv t lv.length else 0)).sum
/-- those of ds that hold a term of the row: id, weight, bound -/
def candO (lv : List Doc) (row : List Int64) (ds : List Doc) : List (Nat × Nat × Nat) := (ds.filter (fun d => hasT row d.2)).map (fun d => (d.1, sumW lv row d.2, sumB lv row d.2))
theorem cand_app (lv : List Doc) (row : List Int64) (ds : List Doc) (d : Doc) : candO lv row (ds ++ [d]) = if hasT row d.2 then candO lv row ds ++ [(d.1, sumW lv row d.2, sumB lv row d.2)] else candO lv row ds := by
  unfold candO
  rw [List.filter_append, List.map_append]
  split
  · rename_i g
    simp [g]
  · rename_i g
    simp [g]
theorem cand_asc {lv : List Doc} {row : List Int64} {ds : List Doc} (h : asc ds) : (candO lv row ds).Pairwise (fun a b => a.1 < b.1) := by
  unfold candO
  rw [List.pairwise_map]
  exact List.Pairwise.filter _ h
theorem map_sum_le {α : Type} {f g : α → Nat} : ∀ {l : List α}, (∀ x ∈ l, f x ≤ g x) → (l.map f).sum ≤ (l.map g).sum
  | [], _ => Nat.le_refl _
  | x :: t, h => by
    have h1 := h x (by simp)
    have h2 := map_sum_le (f := f) (g := g) (l := t) (fun y hy => h y (by simp [hy]))
    simp only [List.map_cons, List.sum_cons]
    omega
theorem dAt_of {lv : List Doc} {d : Doc} (h : d ∈ lv) : ∃ i, i < lv.length ∧ dAt lv i = d := by
  obtain ⟨i, hi⟩ := List.getElem?_of_mem h
  refine ⟨i, (List.getElem?_eq_some_iff.mp hi).1, ?_⟩
  unfold dAt
  rw [List.getD_eq_getElem?_getD, hi]
  rfl
theorem cand_le {lv : List Doc} {row : List Int64} {ds : List Doc} (h : ∀ d ∈ ds, d ∈ lv) : ∀ x ∈ candO lv row ds, x.2.1 ≤ x.2.2 := fun x hx => by
  unfold candO at hx
  rw [List.mem_map] at hx
  obtain ⟨d, hd, rfl⟩ := hx
  rw [List.mem_filter] at hd
  obtain ⟨i, hi, e⟩ := dAt_of (h d hd.1)
  apply map_sum_le
  intro t _
  split
  · have := bdL_mono (lv := lv) (t := t) hi
    rw [e] at this
    exact this
  · exact Nat.le_refl _
theorem sum_le_c {α : Type} {f : α → Nat} {b : Nat} : ∀ {l : List α}, (∀ x ∈ l, f x ≤ b) → (l.map f).sum ≤ l.length * b
  | [], _ => by simp
  | x :: t, h => by
    have h1 := h x (by simp)
    have h2 := sum_le_c (f := f) (b := b) (l := t) (fun y hy => h y (by simp [hy]))
    simp only [List.map_cons, List.sum_cons, List.length_cons, Nat.add_mul]
    omega
theorem sumW_lt {lv : List Doc} {row ts : List Int64} (hN : lv.length ≤ 12) (hl : ts.length ≤ 12) (hr : row.length ≤ 8) : sumW lv row ts < 2 ^ 27 := by
  have := sum_le_c (f := fun t => if 0 < dT ts t then wtL lv ts t else 0) (b := 5280000) (l := row) (fun t _ => by
    have := wtL_le (lv := lv) (t := t) hN hl
    split <;> omega)
  have : row.length * 5280000 ≤ 8 * 5280000 := Nat.mul_le_mul_right _ hr
  unfold sumW
  omega
theorem sumB_lt {lv : List Doc} {row ts : List Int64} (hN : lv.length ≤ 12) (hl : ∀ i, (dAt lv i).2.length ≤ 12) (hr : row.length ≤ 8) : sumB lv row ts < 2 ^ 27 := by
  have := sum_le_c (f := fun t => if 0 < dT ts t then bdL lv t lv.length else 0) (b := 5280000) (l := row) (fun t _ => by
    have := bdL_le (lv := lv) (t := t) hN hl lv.length
    split <;> omega)
  have : row.length * 5280000 ≤ 8 * 5280000 := Nat.mul_le_mul_right _ hr
  unfold sumB
  omega
theorem dAt_12 {lv : List Doc} (h : ∀ x ∈ lv, x.1 < 12 ∧ x.2.length ≤ 12) (i : Nat) : (dAt lv i).2.length ≤ 12 := by
  unfold dAt
  rw [List.getD_eq_getElem?_getD]
  cases hi : lv[i]? with
  | none => simp
  | some x => exact (h x (List.mem_of_getElem? hi)).2
theorem wl_asc {k : Nat} {lv : List Doc} {row : List Int64} {ds : List Doc} (h : asc ds) : (wlF k (candO lv row ds)).Pairwise (fun a b => a.1 < b.1) := by
  refine List.Pairwise.sublist (wlF_sub k _) ?_
  rw [List.pairwise_map]
  exact cand_asc h
/-- what the ranking answers: the first k by weight -/
def rkR (lv : List Doc) (row : List Int64) (k : Nat) : List (Nat × Nat) := (srtW ((candO lv row lv).map (fun x => (x.1, x.2.1)))).take k
theorem rk_ok {lv : List Doc} {row : List Int64} {k : Nat} (hk : 1 ≤ k) (h : asc lv) : (srtW (wlF k (candO lv row lv))).take k = rkR lv row k := wlF_best hk (cand_asc h) (cand_le fun _ z => z)
