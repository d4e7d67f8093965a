/-! the machine and the results: contracts -/
theorem eu_same {F : ev_H} {a : Nat} {c : ev_C} (h : F a = some c) : ev_up F a c = F := funext fun x => by
  by_cases e : x = a
  · subst e
    rw [eu_y, h]
  · rw [eu_n e]
/-- how many blocks are written of k, with the fuse b -/
def wdone (b k : Nat) : Nat := if 0 < b ∧ b ≤ k then b else k
abbrev maO (w : Int32) (b : Nat) (s : Bool) : ev_C := .inr (4, [.int w, .int (nI b), .int (bI s)])
section ConMa
variable {l : Launch} {X : ev_X} {n : Nat} {F : ev_H} {m : Nat} {w : Int32} {b : Nat}
theorem c_Ma_writeBlock (h : F m = some (maO w b false)) (hb : b ≤ 100) : Cal l X M_Ma_writeBlock 0 0 [.ref m] n F (ev_void n (ev_up F m (maO (w + 1) (b - 1) (decide (b = 1))))) := by
  refine Cal.of (by decide) (Nat.le_of_ble_eq_true rfl) (s_Ma_writeBlock_0 h (fun a => ⟨rfl, rfl, ?_⟩) (fun a c => ⟨rfl, rfl, ?_⟩) (fun a c => ⟨rfl, rfl, ?_⟩))
  · have : b = 0 := by
      have := (nI_leI (b := 0) (by omega) (by decide)).mp a
      omega
    subst this
    rfl
  · have h1 : 0 < b := Nat.pos_of_ne_zero fun z => a (by rw [z]; decide)
    have s1 : nI b - 1 = nI (b - 1) := pk_sub (b := 1) h1
    rw [s1] at c
    have : ¬ b = 1 := fun z => c (by rw [z]; decide)
    rw [s1, ev_uu, ev_uu, decide_eq_false this]
    rfl
  · have h1 : 0 < b := Nat.pos_of_ne_zero fun z => a (by rw [z]; decide)
    have s1 : nI b - 1 = nI (b - 1) := pk_sub (b := 1) h1
    rw [s1] at c
    have : b = 1 := by
      have := (nI_eq (b := 0) (by omega) (by decide)).mp c
      omega
    rw [s1, ev_uu, ev_uu, decide_eq_true this]
    rfl
theorem c_Ma_writeBlocks {k : Nat} (h : F m = some (maO w b false)) (hb : b ≤ 100) (hk : k ≤ 1000) : Cal l X M_Ma_writeBlocks 0 0 [.ref m, .int (nI k)] n F (ev_pure (.int (bI (decide (wdone b k = k)))) n (ev_up F m (maO (w + nI (wdone b k)) (b - wdone b k) (decide (0 < b ∧ b ≤ k))))) := by
  have key : ∀ (d i : Nat), i + d = k → ¬ (0 < b ∧ b ≤ i) → Ev l X M_Ma_writeBlocks 0 0 2 [(0, .ref m), (1, .int (nI k)), (2, .int (nI i))] [] n (ev_up F m (maO (w + nI i) (b - i) false)) (ev_mq X (ev_pure (.int (bI (decide (wdone b k = k)))) n (ev_up F m (maO (w + nI (wdone b k)) (b - wdone b k) (decide (0 < b ∧ b ≤ k)))))) := by
    intro d
    induction d with
    | zero =>
      intro i hi hn
      have e1 : i = k := by omega
      subst e1
      have hle : nI i ≤ nI i := (nI_leI (by omega) (by omega)).mpr (Nat.le_refl _)
      have e2 : wdone b i = i := by rw [wdone, if_neg hn]
      refine s_Ma_writeBlocks_2 (bc17 := 0) (bs17 := 0) (rc17 := 0) (rs17 := 0) (Q17 := fun _ _ _ => False) eu_y (Nat.le_refl 0) (Nat.le_refl 0) (fun _ => ⟨by rw [e2]; simp [bI], rfl, by rw [e2]; simp [hn]⟩) ?_ ?_ ?_
      all_goals exact fun c => absurd hle c
    | succ d ih =>
      intro i hi hn
      have hgt : ¬ nI k ≤ nI i := i_ge (by omega) (by omega) (by omega)
      refine s_Ma_writeBlocks_2 (bc17 := 0) (bs17 := 0) (rc17 := 0) (rs17 := 0) eu_y (Nat.le_refl 0) (Nat.le_refl 0) (fun c => absurd c hgt) (fun _ _ => c_Ma_writeBlock eu_y (by omega)) (fun _ _ => ?_) (fun _ a => absurd rfl a)
      rintro _ _ _ ⟨rfl, rfl, rfl⟩
      have ew : w + nI i + 1 = w + nI (i + 1) := by rw [← nI_1, Int32.add_assoc]
      refine s_Ma_writeBlocks_20 ?_
      rw [ev_uu, nI_1, ew, show b - i - 1 = b - (i + 1) by omega]
      by_cases g : 0 < b ∧ b ≤ i + 1
      · have e1 : b - i = 1 := by omega
        have e2 : b = i + 1 := by omega
        have e3 : wdone b k = b := by rw [wdone, if_pos ⟨by omega, by omega⟩]
        have e4 : decide (b - i = 1) = true := decide_eq_true e1
        have e5 : decide (0 < b ∧ b ≤ k) = true := decide_eq_true ⟨by omega, by omega⟩
        rw [e4]
        refine s_Ma_writeBlocks_2 (bc17 := 0) (bs17 := 0) (rc17 := 0) (rs17 := 0) (Q17 := fun _ _ _ => False) eu_y (Nat.le_refl 0) (Nat.le_refl 0) (fun a => ⟨?_, rfl, ?_⟩) (fun _ a => absurd a (by decide)) (fun _ a => absurd a (by decide)) (fun a _ => ⟨?_, rfl, ?_⟩)
        · have := (nI_leI (by omega) (by omega)).mp a
          have e6 : wdone b k = k := by omega
          rw [e6]
          simp [bI]
        · rw [e3, e5, e2]
        · have e6 : ¬ wdone b k = k := fun z => a ((nI_leI (by omega) (by omega)).mpr (by omega))
          simp [e6, bI]
        · rw [e3, e5, e2]
      · have e1 : ¬ b - i = 1 := by omega
        have e4 : decide (b - i = 1) = false := decide_eq_false e1
        rw [e4]
        exact ih (i + 1) (by omega) g
  have h0 := key k 0 (by omega) (by omega)
  rw [show w + nI 0 = w from by rw [show nI 0 = 0 from rfl, Int32.add_zero], Nat.sub_zero, eu_same h] at h0
  exact Cal.of (by decide) (Nat.le_of_ble_eq_true rfl) (s_Ma_writeBlocks_0 h0)
end ConMa
/-- the results at r: their ids and weights -/
def reI (F : ev_H) (r : Nat) (rs : List (Nat × Nat)) : Prop := ∃ fi fw, F r = some (.inr (7, [.ref (r + 1), .ref (r + 2), .int (nI rs.length)])) ∧ F (r + 1) = some (.inl (0, 12, .inl fi)) ∧ F (r + 2) = some (.inl (0, 12, .inl fw)) ∧ rs.length ≤ 12 ∧ ∀ i x, rs[i]? = some x → fi i = nI x.1 ∧ fw i = nI x.2 ∧ x.2 < 2 ^ 30
/-- where a document of weight w goes, among the first k -/
def rAt (rs : List (Nat × Nat)) (w : Nat) : Nat → Nat
  | 0 => 0
  | k + 1 => if (rs.getD k (0, 0)).2 < w then rAt rs w k else k + 1
theorem rAt_le (rs : List (Nat × Nat)) (w : Nat) : ∀ k, rAt rs w k ≤ k
  | 0 => Nat.le_refl _
  | k + 1 => by
    unfold rAt
    split
    · have := rAt_le rs w k
      omega
    · exact Nat.le_refl _
/-- the results with one more, of which the first mx are kept -/
def rIns (rs : List (Nat × Nat)) (id w mx : Nat) : List (Nat × Nat) := (rs.take (rAt rs w rs.length) ++ (id, w) :: rs.drop (rAt rs w rs.length)).take mx
section ConRe
variable {l : Launch} {X : ev_X} {n : Nat} {F : ev_H} {r : Nat} {rs : List (Nat × Nat)}
def reQ (n : Nat) (F : ev_H) (r : Nat) (rs : List (Nat × Nat)) : Option Value → Nat → ev_H → Prop := fun v n' F' => v = none ∧ n' = n ∧ reI F' r rs ∧ ag F F' r (r + 3)
theorem c_Re_clear (h : reI F r rs) : Cal l X M_Re_clear 0 0 [.ref r] n F (reQ n F r []) := by
  obtain ⟨fi, fw, h1, h2, h3, h4, h5⟩ := h
  refine Cal.of (by decide) (Nat.le_of_ble_eq_true rfl) (s_Re_clear_0 h1 ⟨rfl, rfl, ⟨fi, fw, eu_y, by rw [eu_n (by omega)]; exact h2, by rw [eu_n (by omega)]; exact h3, Nat.zero_le _, fun i x hx => by simp at hx⟩, ag_u (ag_r _ _ _) (by omega) (by omega)⟩)
theorem c_Re_has {i : Int32} (h : reI F r rs) : Cal l X M_Re_has 0 0 [.ref r, .int i] n F (ev_pure (.int (bI (decide (¬ i < 0 ∧ ¬ nI rs.length ≤ i)))) n F) := by
  obtain ⟨fi, fw, h1, h2, h3, h4, h5⟩ := h
  refine Cal.of (by decide) (Nat.le_of_ble_eq_true rfl) (s_Re_has_0 h1 (fun a => ⟨?_, rfl, rfl⟩) (fun a b => ⟨?_, rfl, rfl⟩) (fun a b => ⟨?_, rfl, rfl⟩))
  · rw [decide_eq_false (fun z => z.1 a)]; rfl
  · rw [decide_eq_false (fun z => z.2 b)]; rfl
  · rw [decide_eq_true ⟨a, b⟩]; rfl
theorem c_Re_leastWeight (h : reI F r rs) : Cal l X M_Re_leastWeight 0 0 [.ref r] n F (ev_pure (.int (nI (if rs.length = 0 then 0 else (rs.getD (rs.length - 1) (0, 0)).2))) n F) := by
  obtain ⟨fi, fw, h1, h2, h3, h4, h5⟩ := h
  have p0 : ¬ nI rs.length ≤ 0 → 0 < rs.length := fun z => Nat.pos_of_ne_zero fun e => z (by rw [e]; decide)
  have s1 : 0 < rs.length → nI rs.length - 1 = nI (rs.length - 1) := fun z => pk_sub (b := 1) z
  refine Cal.of (by decide) (Nat.le_of_ble_eq_true rfl) (s_Re_leastWeight_0 h1 h3 (fun a => ⟨?_, rfl, rfl⟩) (fun a => ?_) (fun a => ⟨?_, rfl, rfl⟩))
  · have : rs.length = 0 := by
      have := (nI_leI (b := 0) (by omega) (by decide)).mp a
      omega
    simp [this]
    rfl
  · rw [s1 (p0 a)]
    exact vp_in_nI (by have := p0 a; omega) (by decide)
  · have hp := p0 a
    have hl : rs.length - 1 < rs.length := by omega
    have hx : rs[rs.length - 1]? = some (rs.getD (rs.length - 1) (0, 0)) := by
      rw [List.getD_eq_getElem?_getD, List.getElem?_eq_getElem hl]
      rfl
    rw [s1 hp, nI_clamp (by omega), (h5 _ _ hx).2.1, if_neg (by omega)]
end ConRe
