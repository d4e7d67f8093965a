/-! lists of documents, and what is pending: contracts -/
/-- what is known stays, but for W -/
def fr (W : Nat → Prop) (F F' : ev_H) : Prop := ∀ x c, F x = some c → ¬ W x → F' x = some c
theorem fr_r {W : Nat → Prop} {F : ev_H} : fr W F F := fun _ _ h _ => h
theorem fr_t {W : Nat → Prop} {F G H : ev_H} (h : fr W F G) (k : fr W G H) : fr W F H := fun x c hx hw => k x c (h x c hx hw) hw
theorem fr_w {W V : Nat → Prop} {F G : ev_H} (h : fr W F G) (k : ∀ x c, F x = some c → W x → V x) : fr V F G := fun x c hx hv => h x c hx (fun z => hv (k x c hx z))
theorem fr_u {W : Nat → Prop} {F G : ev_H} {a : Nat} {c : ev_C} (h : fr W F G) (ha : W a) : fr W F (ev_up G a c) := fun x d hx hw => by
  rw [eu_n (fun z => hw (by rw [z]; exact ha))]
  exact h x d hx hw
/-- a document that never changes -/
def dcW (F : ev_H) (ow : Nat → Nat) (v : Nat) (x : Nat × List Int64) : Prop := ∃ t f, F v = some (.inr (8, [.int (nI x.1), .ref t])) ∧ F t = some (.inl (1, x.2.length, .inr (.inl f))) ∧ (∀ j, j < x.2.length → f j = tg x.2 j) ∧ ow v = 0 ∧ ow t = 0 ∧ x.1 < 12 ∧ x.2.length ≤ 12
theorem dcW.i {F : ev_H} {ow : Nat → Nat} {v : Nat} {x : Nat × List Int64} (h : dcW F ow v x) : dcI F v x.1 x.2 := by
  obtain ⟨t, f, h1, h2, h3, -⟩ := h
  exact ⟨t, f, h1, h2, h3⟩
theorem dcW.o {F : ev_H} {ow : Nat → Nat} {v : Nat} {x : Nat × List Int64} (h : dcW F ow v x) : isO F v := by
  obtain ⟨t, f, h1, -⟩ := h
  exact ⟨8, _, h1, Or.inl rfl⟩
theorem dcW.k {F G : ev_H} {ow ow' : Nat → Nat} {v : Nat} {x : Nat × List Int64} {W : Nat → Prop} (h : dcW F ow v x) (hf : fr W F G) (hW : ∀ a, ow a = 0 → W a → ∃ d fs, F a = some (.inr (d, fs)) ∧ d ≠ 8) (hw : ∀ a c, F a = some c → ow' a = ow a) : dcW G ow' v x := by
  obtain ⟨t, f, h1, h2, h3, h4, h5, h6⟩ := h
  refine ⟨t, f, hf v _ h1 (fun z => ?_), hf t _ h2 (fun z => ?_), h3, by rw [hw v _ h1]; exact h4, by rw [hw t _ h2]; exact h5, h6⟩
  · obtain ⟨d, fs, q1, q2⟩ := hW v h4 z
    rw [h1] at q1
    cases q1
    exact q2 rfl
  · obtain ⟨d, fs, q1, q2⟩ := hW t h5 z
    rw [h2] at q1
    cases q1
/-- the list at L holds the documents ds -/
def dlI (X : ev_X) (F : ev_H) (ow : Nat → Nat) (L : Nat) (ds : List (Nat × List Int64)) : Prop := ∃ vs, lsI X F ow L vs ∧ vs.length = ds.length ∧ ∀ (i v : Nat) (x : Nat × List Int64), vs[i]? = some v → ds[i]? = some x → dcW F ow v x
theorem lsF_fr {ow : Nat → Nat} {L : Nat} {F G : ev_H} (h : lsF ow L F G) : fr (fun x => x = L ∨ ow x = L) F G := fun x c hx hw => h x c hx (fun z => hw (Or.inl z)) (fun z => hw (Or.inr z))
/-- a list's own cells are no documents -/
theorem ls_W {X : ev_X} {F : ev_H} {ow : Nat → Nat} {L : Nat} {vs : List Nat} (h : lsI X F ow L vs) (hL : L ≠ 0) : ∀ a, ow a = 0 → (a = L ∨ ow a = L) → ∃ d fs, F a = some (.inr (d, fs)) ∧ d ≠ 8 := fun a h0 hz => by
  rcases hz with rfl | hz
  · obtain ⟨e, mc, h1, -⟩ := h
    exact ⟨12, _, h1, by decide⟩
  · rw [h0] at hz
    exact absurd hz.symm hL
theorem dl_O {X : ev_X} {F : ev_H} {ow : Nat → Nat} {ds : List (Nat × List Int64)} {vs : List Nat} (hl : vs.length = ds.length) (hd : ∀ (i v : Nat) (x : Nat × List Int64), vs[i]? = some v → ds[i]? = some x → dcW F ow v x) : ∀ y ∈ vs, isO F y := fun y hy => by
  obtain ⟨i, hi⟩ := List.getElem?_of_mem hy
  have hlt : i < ds.length := by rw [← hl]; exact (List.getElem?_eq_some_iff.mp hi).1
  exact (hd i y _ hi (List.getElem?_eq_getElem hlt)).o
theorem erase_mid {α : Type} : ∀ (a : List α) (x : α) (t : List α), (a ++ x :: t).eraseIdx a.length = a ++ t
  | [], x, t => rfl
  | y :: a, x, t => by
    show y :: ((a ++ x :: t).eraseIdx a.length) = _
    rw [erase_mid a x t]
    rfl
theorem last_of {α : Type} {a : List α} {k : Nat} (h : a.length = k + 1) : ∃ a' x, a = a' ++ [x] ∧ a'.length = k := by
  have hne : a ≠ [] := fun z => by rw [z] at h; cases h
  exact ⟨a.dropLast, a.getLast hne, (List.dropLast_concat_getLast hne).symm, by simp; omega⟩
theorem n_m1 (x : Int32) : x + (-1) = x - 1 := by rw [Int32.sub_eq_add_neg]
theorem n_or (a b : Nat) : nI a ||| nI b = nI (a ||| b) := by
  apply Int32.toBitVec_inj.mp
  show BitVec.ofNat 32 a ||| BitVec.ofNat 32 b = BitVec.ofNat 32 (a ||| b)
  apply BitVec.eq_of_toNat_eq
  simp [Nat.or_mod_two_pow]
theorem n_bit : ∀ i, i < 12 → (1 : Int32) <<< (nI i &&& 31) = nI (2 ^ i) := by decide +kernel
theorem or_lt {m i : Nat} (h : m < 4096) (hi : i < 12) : m ||| 2 ^ i < 4096 := Nat.or_lt_two_pow (n := 12) h (by
  have := Nat.pow_lt_pow_right (show 1 < 2 by decide) hi
  exact this)
/-- what is pending, at q: the documents ds, the ids m -/
def peI (X : ev_X) (F : ev_H) (ow : Nat → Nat) (q : Nat) (ds : List (Nat × List Int64)) (m : Nat) : Prop := F q = some (.inr (2, [.ref (q + 1), .int (nI m)])) ∧ dlI X F ow (q + 1) ds ∧ m < 4096 ∧ ow q = 1 ∧ 1 < q
abbrev peW (ow : Nat → Nat) (q : Nat) : Nat → Prop := fun x => x = q ∨ x = q + 1 ∨ ow x = q + 1
section ConPe
variable {l : Launch} {X : ev_X} {n : Nat} {F : ev_H} {ow : Nat → Nat} {q m : Nat} {ds : List (Nat × List Int64)}
theorem c_Pe_idCount (h : peI X F ow q ds m) : Cal l X M_Pe_idCount 0 0 [.ref q] n F (ev_pure (.int (nI (popc m))) n F) :=
  Cal.of (by decide) (Nat.le_of_ble_eq_true rfl) (s_Pe_idCount_0 h.1 (c_Int_bitCount h.2.2.1) ⟨rfl, rfl, rfl⟩)
/-- one document is taken out of a list -/
theorem dl_erase {L : Nat} {G : ev_H} {vs : List Nat} {a t : List (Nat × List Int64)} {x : Nat × List Int64} (h : lsI X F ow L vs) (hL : L ≠ 0) (hl : vs.length = (a ++ x :: t).length) (hd : ∀ (i v : Nat) (y : Nat × List Int64), vs[i]? = some v → (a ++ x :: t)[i]? = some y → dcW F ow v y) (hG : lsI X G ow L (vs.eraseIdx a.length)) (hf : lsF ow L F G) : dlI X G ow L (a ++ t) := by
  have hi : a.length < vs.length := by rw [hl]; simp
  refine ⟨_, hG, ?_, fun i v y hv hy => ?_⟩
  · rw [List.length_eraseIdx, if_pos hi, hl]
    simp
  · rw [← erase_mid a x t, List.getElem?_eraseIdx] at hy
    rw [List.getElem?_eraseIdx] at hv
    have : dcW F ow v y := by
      by_cases g : i < a.length
      · rw [if_pos g] at hv hy
        exact hd i v y hv hy
      · rw [if_neg g] at hv hy
        exact hd (i + 1) v y hv hy
    exact this.k (lsF_fr hf) (ls_W h hL) (fun _ _ _ => rfl)
theorem c_Pe_dropDocument {id : Nat} (h : peI X F ow q ds m) (hid : id < 12) : Cal l X M_Pe_dropDocument 0 0 [.ref q, .int (nI id)] n F (fun v n' F' => v = none ∧ n' = n ∧ peI X F' ow q (ds.filter (fun x => x.1 != id)) m ∧ fr (peW ow q) F F') := by
  have key : ∀ (k : Nat) (a t : List (Nat × List Int64)) (G : ev_H), a.length = k → peI X G ow q (a ++ t) m → fr (peW ow q) F G → Ev l X M_Pe_dropDocument 0 0 10 [(0, .ref q), (1, .int (nI id)), (2, .int (nI k - 1))] [] n G (ev_mq X (fun v n' F' => v = none ∧ n' = n ∧ peI X F' ow q (a.filter (fun x => x.1 != id) ++ t) m ∧ fr (peW ow q) F F')) := by
    intro k
    induction k with
    | zero =>
      intro a t G ha hG hF
      have e : a = [] := List.length_eq_zero_iff.mp ha
      subst e
      obtain ⟨g1, ⟨vs, ⟨e, mc, g2, g3⟩, g4⟩, g5⟩ := hG
      refine s_Pe_dropDocument_10 (v19 := 0) (iv19_id := 0) (v19_terms := 0) (bc37 := 0) (bs37 := 0) (rc37 := 0) (rs37 := 0) (Q37 := fun _ _ _ => False) g1 g2 (Nat.le_refl 0) (Nat.le_refl 0) (fun _ => ⟨rfl, rfl, ⟨g1, ⟨vs, ⟨e, mc, g2, g3⟩, g4⟩, g5⟩, hF⟩) ?_ ?_ ?_ ?_ ?_
      all_goals exact fun z => absurd (by decide) z
    | succ k ih =>
      intro a t G ha hG hF
      obtain ⟨a', x, rfl, ha'⟩ := last_of ha
      have hG0 := hG
      obtain ⟨g1, ⟨vs, g2, g3, g4⟩, g5, g6, g7⟩ := hG
      have hlen := ls_len g2
      rw [List.append_assoc] at g3 g4 hG0
      have hk : k < vs.length := by rw [g3]; simp; omega
      have hx : (a' ++ ([x] ++ t))[k]? = some x := by
        rw [List.getElem?_append_right (by omega), ha']
        simp
      obtain ⟨v, hv⟩ : ∃ v, vs[k]? = some v := ⟨_, List.getElem?_eq_getElem hk⟩
      have hdc := g4 k v x hv hx
      have hdc0 := hdc
      obtain ⟨tt, f, d1, d2, d3, d4, d5, d6, d7⟩ := hdc
      have s1 : nI (k + 1) - 1 = nI k := pk_sub (a := k + 1) (b := 1) (by omega)
      have hg2 := g2
      obtain ⟨e, mc, l1, l2⟩ := g2
      have hO := dl_O (X := X) g3 g4
      rw [s1]
      refine s_Pe_dropDocument_10 (v19 := v) (bc37 := 0) (bs37 := 0) (rc37 := 0) (rs37 := 0) g1 l1 (Nat.le_refl 0) (Nat.le_refl 0) (fun z => absurd z (nI_pos (by omega))) (fun _ => c_AL_get hg2 hv) (fun _ => d1) (fun _ b => ?_) (fun _ _ => c_AL_remove hg2 hv hO) (fun _ b => ?_)
      · rw [nI_eq (by omega) (by omega)] at b
        have he : (a' ++ [x]).filter (fun x => x.1 != id) ++ t = a'.filter (fun x => x.1 != id) ++ (x :: t) := by
          simp [List.filter_append, b]
        rw [he, n_m1]
        exact ih a' (x :: t) G ha' hG0 hF
      · rw [nI_eq (by omega) (by omega)] at b
        rintro _ _ G' ⟨rfl, rfl, hq1, hq2⟩
        have he : (a' ++ [x]).filter (fun x => x.1 != id) ++ t = a'.filter (fun x => x.1 != id) ++ t := by
          simp [List.filter_append, b]
        have hne : q ≠ q + 1 := by omega
        have hw2 : ow q ≠ q + 1 := by omega
        refine s_Pe_dropDocument_40 ?_
        rw [he, n_m1]
        refine ih a' t G' ha' ⟨hq2 q _ g1 hne hw2, ?_, g5, g6, g7⟩ (fr_t hF (fr_w (lsF_fr hq2) (fun x c _ z => ?_)))
        · rw [← ha'] at hq1
          exact dl_erase hg2 (by omega) g3 g4 hq1 hq2
        · rcases z with z | z
          · exact Or.inr (Or.inl z)
          · exact Or.inr (Or.inr z)
  have hh := h
  obtain ⟨g1, ⟨vs, g2, g3, g4⟩, g5⟩ := h
  have hs := c_AL_size (l := l) (n := n) g2
  obtain ⟨e, mc, l1, l2⟩ := g2
  have h0 := key ds.length ds [] F rfl (by rw [List.append_nil]; exact hh) fr_r
  rw [List.append_nil] at h0
  refine Cal.of (by decide) (Nat.le_of_ble_eq_true rfl) (s_Pe_dropDocument_0 g1 l1 hs ?_)
  rw [g3]
  exact h0
end ConPe
