/-! the shelf: marking, the live list -/
theorem kn {n : Nat} {F : ev_H} {x : Nat} {c : ev_C} (fr0 : ∀ q : Nat, n ≤ q → F q = none) (h : F x = some c) : x < n := Nat.lt_of_not_le fun z => by rw [fr0 x z] at h; cases h
theorem nd_ne {l : List Nat} (h : l.Nodup) {i j a b : Nat} (hi : l[i]? = some a) (hj : l[j]? = some b) (e : i ≠ j) : a ≠ b := by
  obtain ⟨i1, i2⟩ := List.getElem?_eq_some_iff.mp hi
  obtain ⟨j1, j2⟩ := List.getElem?_eq_some_iff.mp hj
  have hp := List.pairwise_iff_getElem.mp h
  rcases Nat.lt_or_ge i j with g | g
  · have := hp i j i1 j1 g
    rw [i2, j2] at this
    exact this
  · have := hp j i j1 i1 (by omega)
    rw [i2, j2] at this
    exact fun z => this z.symm
theorem set_mid {α : Type} : ∀ (a : List α) (x z : α) (t : List α), (a ++ x :: t).set a.length z = a ++ z :: t
  | [], x, z, t => rfl
  | y :: a, x, z, t => by
    show y :: ((a ++ x :: t).set a.length z) = _
    rw [set_mid a x z t]
    rfl
theorem get_mid {α : Type} (a : List α) (x : α) (t : List α) : (a ++ x :: t)[a.length]? = some x := by
  rw [List.getElem?_append_right (Nat.le_refl _), Nat.sub_self]
  rfl
theorem ins3 {α : Type} {l : List α} {x : α} {i : Nat} (hi : i ≤ l.length) (j : Nat) : (l.take i ++ x :: l.drop i)[j]? = if j < i then l[j]? else if j = i then some x else l[j - 1]? := by
  have hl : (l.take i).length = i := by simp; omega
  by_cases g : j < i
  · rw [if_pos g, List.getElem?_append_left (by omega), List.getElem?_take, if_pos g]
  · rw [if_neg g, List.getElem?_append_right (by omega), hl]
    by_cases e : j = i
    · subst e
      simp
    · obtain ⟨d, rfl⟩ : ∃ d, j = i + (d + 1) := ⟨j - i - 1, by omega⟩
      rw [if_neg e, show i + (d + 1) - i = d + 1 by omega, List.getElem?_cons_succ, List.getElem?_drop, show i + (d + 1) - 1 = i + d by omega]
section Sh2
variable {l : Launch} {X : ev_X} {n : Nat} {F G : ev_H} {ow ow' : Nat → Nat} {s : Nat} {gs : List Nat} {sg : List Seg} {lv : List Doc}
/-- the bits of one segment are written -/
theorem sl_bits {L i g m : Nat} {y : Seg} (h : slI X F ow L gs sg) (hL : ow L = 1) (h1L : 1 < L) (hg : gs[i]? = some g) (hy : sg[i]? = some y) (hm : m < 4096) : slI X (ev_up F g (.inr (9, [.ref (g + 1), .int (nI m)]))) ow L gs (sg.set i (y.1, m)) ∧ kp ow (fun x => 1 < x ∧ x ≠ g) F (ev_up F g (.inr (9, [.ref (g + 1), .int (nI m)]))) := by
  obtain ⟨a1, a2, a3, a4⟩ := h
  have hs := a4 i g y hg hy
  obtain ⟨b1, b2, b3, b4, b5, b6, b7⟩ := hs
  have hk : kp ow (fun x => 1 < x ∧ x ≠ g) F (ev_up F g (.inr (9, [.ref (g + 1), .int (nI m)]))) := kp_u kp_r b4 (fun z => z.2 rfl) (fun z => by omega)
  obtain ⟨e0, mc0, c0⟩ := a1
  have hLg : L ≠ g := ev_ne_oo c0.1 b1 rfl
  refine ⟨⟨ls_kp ⟨e0, mc0, c0⟩ hk ⟨h1L, hLg⟩ hL (fun _ _ _ => rfl), by rw [List.length_set]; exact a2, a3, fun j g' y' hg' hy' => ?_⟩, hk⟩
  by_cases e : j = i
  · subst e
    rw [hg] at hg'
    cases hg'
    have hlt := (List.getElem?_eq_some_iff.mp hy).1
    rw [List.getElem?_set_self hlt] at hy'
    cases hy'
    exact ⟨eu_y, dl_kp b2 hk ⟨by omega, by omega⟩ b5 (fun _ _ _ => rfl), hm, b4, b5, b6, b7⟩
  · rw [List.getElem?_set_ne (fun z => e z.symm)] at hy'
    have hs' := a4 j g' y' hg' hy'
    obtain ⟨e', mc', c'⟩ := dl_cell hs'.2.1
    have h1g := hs'.2.2.2.2.2.1
    exact sg_kp hs' hk ⟨h1g, nd_ne a3 hg' hg e⟩ ⟨by omega, ev_ne_oo c' b1 rfl⟩ (fun _ _ _ => rfl)
/-- the live list is another one -/
theorem sh_lv {lv' : List Doc} (h : shI X F ow s gs sg lv) (k : kp ow (fun x => 1 < x ∧ x ≠ s + 2) F G) (w : ∀ x c, F x = some c → ow' x = ow x) (hl : dlI X G ow' (s + 2) lv') (h12 : lv'.length ≤ 12) : shI X G ow' s gs sg lv' := by
  obtain ⟨h1, h2, h3, ⟨w0, w1, w2, w3⟩, h5, h6⟩ := h
  obtain ⟨r1, mc1, q1⟩ := sl_cell h2
  obtain ⟨r2, mc2, q2⟩ := dl_cell h3
  refine ⟨k _ _ h1 (Or.inr (Or.inl ⟨w0, by omega, by omega⟩)), sl_kp h2 k ⟨by omega, by omega⟩ w1 (fun g hg => ?_) w, hl, ⟨by rw [w _ _ h1]; exact w0, by rw [w _ _ q1]; exact w1, by rw [w _ _ q2]; exact w2, w3⟩, h5, h12⟩
  obtain ⟨i, y, -, -, b1, b2, b3, b4, b5, b6, b7⟩ := sl_mem h2 hg
  have n1 : g ≠ s + 2 := ev_ne_oo b1 q2 rfl
  have n2 : g ≠ s + 1 := ev_ne_oo b1 q1 rfl
  exact ⟨⟨b6, n1⟩, ⟨by omega, by omega⟩⟩
abbrev shC (n s : Nat) (gs : List Nat) : Nat → Prop := fun x => 1 < x ∧ x < n ∧ x ≠ s + 1 ∧ x ≠ s + 2 ∧ x ∉ gs
def mdQ (X : ev_X) (n : Nat) (F : ev_H) (ow : Nat → Nat) (s : Nat) (gs : List Nat) (sg : List Seg) (lv : List Doc) : Option Value → Nat → ev_H → Prop := fun v n' F' => v = none ∧ n' = n ∧ shI X F' ow s gs sg lv ∧ kp ow (shC n s gs) F F'
theorem c_Sh_markDeleted {m : Nat} (h : shI X F ow s gs sg lv) (hm : m < 4096) : Cal l X M_Sh_markDeleted 0 0 [.ref s, .int (nI m)] n F (mdQ X n F ow s gs (sg.map (mkS m)) (lv.filter (fun d => !m.testBit d.1))) := by
  have key2 : ∀ (k : Nat) (a t : List Doc) (G : ev_H), a.length = k → shI X G ow s gs (sg.map (mkS m)) (a ++ t) → kp ow (shC n s gs) F G → Ev l X M_Sh_markDeleted 0 0 49 [(0, .ref s), (1, .int (nI m)), (2, .int (nI k - 1))] [] n G (ev_mq X (mdQ X n F ow s gs (sg.map (mkS m)) (a.filter (fun d => !m.testBit d.1) ++ t))) := by
    intro k
    induction k with
    | zero =>
      intro a t G ha hG hF
      have e : a = [] := List.length_eq_zero_iff.mp ha
      subst e
      obtain ⟨e2, mc2, c2⟩ := dl_cell hG.2.2.1
      refine s_Sh_markDeleted_49 (v58 := 0) (iv58_id := 0) (v58_terms := 0) (v68 := 0) (bc79 := 0) (bs79 := 0) (rc79 := 0) (rs79 := 0) (Q79 := fun _ _ _ => False) hG.1 c2 (Nat.le_refl 0) (Nat.le_refl 0) (fun _ => ⟨rfl, rfl, hG, hF⟩) ?_ ?_ ?_ ?_ ?_ ?_
      all_goals exact fun z => absurd (by decide) z
    | succ k ih =>
      intro a t G ha hG hF
      obtain ⟨a', x, rfl, ha'⟩ := last_of ha
      have hG0 := hG
      obtain ⟨g1, g2, ⟨vs, l1, l2, l3⟩, ⟨w0, w1, w2, w3⟩, g5, g6⟩ := hG
      rw [List.append_assoc] at l2 l3 hG0 g6
      have hlen := ls_len l1
      have hk : k < vs.length := by rw [l2]; simp; omega
      have hx : (a' ++ ([x] ++ t))[k]? = some x := by
        rw [← ha']
        exact get_mid a' x t
      obtain ⟨v, hv⟩ : ∃ v, vs[k]? = some v := ⟨_, List.getElem?_eq_getElem hk⟩
      have hdc := l3 k v x hv hx
      obtain ⟨tt, f, d1, d2, d3, d4, d5, d6, d7⟩ := hdc
      have s1 : nI (k + 1) - 1 = nI k := pk_sub (a := k + 1) (b := 1) (by omega)
      have hl1 := l1
      obtain ⟨e, mc, c1, c2⟩ := l1
      have hO := dl_O (X := X) l2 l3
      rw [s1]
      refine s_Sh_markDeleted_49 (v58 := v) (v68 := bI (m.testBit x.1)) (bc79 := 0) (bs79 := 0) (rc79 := 0) (rs79 := 0) g1 c1 (Nat.le_refl 0) (Nat.le_refl 0) (fun z => absurd z (nI_pos (by omega))) (fun _ => c_AL_get hl1 hv) (fun _ => d1) (fun _ => c_P_isAmong d6 hm) (fun _ b => ?_) (fun _ _ => c_AL_remove hl1 hv hO) (fun _ b => ?_)
      · have hb := bI_1.mp b
        have he : (a' ++ [x]).filter (fun d => !m.testBit d.1) ++ t = a'.filter (fun d => !m.testBit d.1) ++ (x :: t) := by
          simp [List.filter_append, hb]
        rw [he, n_m1]
        exact ih a' (x :: t) G ha' hG0 hF
      · have hb := bI_n0 b
        rintro _ _ G' ⟨rfl, rfl, hq1, hq2⟩
        have he : (a' ++ [x]).filter (fun d => !m.testBit d.1) ++ t = a'.filter (fun d => !m.testBit d.1) ++ t := by
          simp [List.filter_append, hb]
        refine s_Sh_markDeleted_82 ?_
        rw [he, n_m1]
        have hk2 := kp_ls hq2 w2 (by omega)
        have hd : dlI X G' ow (s + 2) (a' ++ t) := by
          rw [← ha'] at hq1
          exact dl_erase hl1 (by omega) l2 l3 hq1 hq2
        refine ih a' t G' ha' (sh_lv hG0 hk2 (fun _ _ _ => rfl) hd (by simp at g6 ⊢; omega)) (kp_t hF (kp_w hk2 (fun y hy => ⟨hy.1, hy.2.2.2.1⟩)) (fun _ _ _ => rfl))
  have key1 : ∀ (t a : List Seg) (G : ev_H), sg = a ++ t → shI X G ow s gs (a.map (mkS m) ++ t) lv → kp ow (shC n s gs) F G → Ev l X M_Sh_markDeleted 0 0 2 [(0, .ref s), (1, .int (nI m)), (2, .int (nI a.length))] [] n G (ev_mq X (mdQ X n F ow s gs (sg.map (mkS m)) (lv.filter (fun d => !m.testBit d.1)))) := by
    intro t
    induction t with
    | nil =>
      intro a G hs hG hF
      rw [List.append_nil] at hs hG
      subst hs
      obtain ⟨e1, mc1, c1⟩ := sl_cell hG.2.1
      obtain ⟨e2, mc2, c2⟩ := dl_cell hG.2.2.1
      have hl6 := hG.2.2.2.2.1
      have hsz := sl_size (l := l) (n := n) hG.2.1
      rw [List.length_map] at hsz c1 hl6
      have hle : nI sg.length ≤ nI sg.length := (nI_leI (by omega) (by omega)).mpr (Nat.le_refl _)
      have h0 := key2 lv.length lv [] G rfl (by rw [List.append_nil]; exact hG) hF
      rw [List.append_nil] at h0
      refine s_Sh_markDeleted_2 (v18 := 0) (iv18_deletedIds := 0) hG.1 c1 c2 hsz (fun _ => dl_size hG.2.2.1) (fun _ => h0) ?_ ?_ ?_
      all_goals exact fun z => absurd hle z
    | cons y t ih =>
      intro a G hs hG hF
      have hG0 := hG
      obtain ⟨g1, g2, g3, ⟨w0, w1, w2, w3⟩, g5, g6⟩ := hG
      obtain ⟨e1, mc1, c1⟩ := sl_cell g2
      obtain ⟨e2, mc2, c2⟩ := dl_cell g3
      have hsz := sl_size (l := l) (n := n) g2
      have hll : (a.map (mkS m) ++ y :: t).length = a.length + (t.length + 1) := by simp
      rw [hll] at hsz c1 g5
      have hgt : ¬ nI (a.length + (t.length + 1)) ≤ nI a.length := i_ge (by omega) (by omega) (by omega)
      obtain ⟨g, hg, k1, k2⟩ := sl_get (l := l) (n := n) g2 (show a.length < (a.map (mkS m) ++ y :: t).length by omega)
      have hy : (a.map (mkS m) ++ y :: t)[a.length]? = some y := by
        have := get_mid (a.map (mkS m)) y t
        rw [List.length_map] at this
        exact this
      have ey : sAt (a.map (mkS m) ++ y :: t) a.length = y := by
        unfold sAt
        rw [List.getD_eq_getElem?_getD, hy]
        rfl
      rw [ey] at k2
      have hmm : y.2 ||| m < 4096 := Nat.or_lt_two_pow (n := 12) k2.2.2.1 hm
      obtain ⟨hb1, hb2⟩ := sl_bits g2 w1 (by omega) hg hy hmm
      have est : (a.map (mkS m) ++ y :: t).set a.length (y.1, y.2 ||| m) = (a ++ [y]).map (mkS m) ++ t := by
        have := set_mid (a.map (mkS m)) y (mkS m y) t
        rw [List.length_map] at this
        simp only [List.map_append, List.map_cons, List.map_nil, List.append_assoc, List.cons_append, List.nil_append]
        exact this
      rw [est] at hb1
      have hgm : g ∈ gs := List.mem_of_getElem? hg
      have n0 : s ≠ g := ev_ne_oo g1 k2.1 rfl
      have n2 : s + 2 ≠ g := ev_ne_oo c2 k2.1 rfl
      have hG2 : shI X (ev_up G g (.inr (9, [.ref (g + 1), .int (nI (y.2 ||| m))]))) ow s gs ((a ++ [y]).map (mkS m) ++ t) lv := ⟨hb2 _ _ g1 (Or.inr (Or.inl ⟨w0, by omega, n0⟩)), hb1, dl_kp g3 hb2 ⟨by omega, n2⟩ w2 (fun _ _ _ => rfl), ⟨w0, w1, w2, w3⟩, by simp; omega, g6⟩
      have hi := ih (a ++ [y]) _ (by rw [hs]; simp) hG2 (kp_t hF (kp_w hb2 (fun z hz => ⟨hz.1, fun q => hz.2.2.2.2 (by rw [q]; exact hgm)⟩)) (fun _ _ _ => rfl))
      rw [show (a ++ [y]).length = a.length + 1 by simp] at hi
      refine s_Sh_markDeleted_2 (v43 := 0) g1 c1 c2 hsz ?_ ?_ (fun _ => k1) (fun _ => k2.1) (fun _ => ?_)
      · exact fun z => absurd z hgt
      · exact fun z => absurd z hgt
      · rw [nI_1, n_or]
        exact hi
  exact Cal.of (by decide) (Nat.le_of_ble_eq_true rfl) (s_Sh_markDeleted_0 (key1 sg [] F rfl h kp_r))
/-- one document more, at its place -/
theorem dl_ins {L v i : Nat} {vs : List Nat} {ds : List Doc} {x : Doc} (h : lsI X F ow L vs) (hL : L ≠ 0) (hi : i ≤ vs.length) (hl : vs.length = ds.length) (hd : ∀ (i v : Nat) (y : Doc), vs[i]? = some v → ds[i]? = some y → dcW F ow v y) (hv : dcW F ow v x) (hw : ∀ a c, F a = some c → ow' a = ow a) (hG : lsI X G ow' L (vs.take i ++ v :: vs.drop i)) (hf : lsF ow L F G) : dlI X G ow' L (ds.take i ++ x :: ds.drop i) := by
  refine ⟨_, hG, by simp; omega, fun j w y e1 e2 => ?_⟩
  rw [ins3 hi] at e1
  rw [ins3 (by omega)] at e2
  have key : dcW F ow w y := by
    by_cases g : j < i
    · rw [if_pos g] at e1 e2
      exact hd j w y e1 e2
    · rw [if_neg g] at e1 e2
      by_cases g2 : j = i
      · rw [if_pos g2] at e1 e2
        cases e1
        cases e2
        exact hv
      · rw [if_neg g2] at e1 e2
        exact hd (j - 1) w y e1 e2
  exact key.k (lsF_fr hf) (ls_W h hL) hw
def lvQ (X : ev_X) (n : Nat) (F : ev_H) (ow : Nat → Nat) (s : Nat) (gs : List Nat) (sg : List Seg) (lv : List Doc) : Option Value → Nat → ev_H → Prop := fun v n' F' => v = none ∧ n ≤ n' ∧ ∃ ow', (∀ x c, F x = some c → ow' x = ow x) ∧ (∀ x, x < n → ow' x = ow x) ∧ shI X F' ow' s gs sg lv ∧ kp ow (fun x => 1 < x ∧ x ≠ s + 2) F F'
theorem c_Sh_insertLive {v : Nat} {x : Doc} (h : shI X F ow s gs sg lv) (hv : dcW F ow v x) (h12 : lv.length < 12) : Cal l X M_Sh_insertLive 1 20 [.ref s, .ref v] n F (lvQ X n F ow s gs sg (insL x lv)) := by
  have hS := h
  obtain ⟨h1, h2, ⟨vs, l1, l2, l3⟩, ⟨w0, w1, w2, w3⟩, h5, h6⟩ := h
  have hl1 := l1
  obtain ⟨e, mc, c1, c2⟩ := l1
  have hdl : dlI X F ow (s + 2) lv := ⟨vs, hl1, l2, l3⟩
  have hvo := hv.o
  have hv0 := hv
  obtain ⟨t0, f0, d1, -, -, -, -, d6, -⟩ := hv
  have fin : ∀ k, k ≤ lv.length → (∀ j, j < k → (dAt lv j).1 < x.1) → (k = lv.length ∨ ¬ (dAt lv k).1 < x.1) → ∀ v2 n2 F2, lsQ X n F ow (s + 2) (vs.take k ++ v :: vs.drop k) none v2 n2 F2 → Ev l X M_Sh_insertLive 0 0 49 [(0, .ref s), (1, .ref v), (2, .int (nI k))] (v2.toList ++ []) n2 F2 (ev_mq X (lvQ X n F ow s gs sg (insL x lv))) := by
    rintro k hk a b _ n2 F2 ⟨rfl, hn, ow', u1, u2, hq1, hq2⟩
    have hk2 := kp_ls hq2 w2 (by omega)
    refine s_Sh_insertLive_49 ⟨rfl, hn, ow', u1, u2, sh_lv hS hk2 u1 ?_ ?_, hk2⟩
    · rw [insL_at a hk b]
      exact dl_ins hl1 (by omega) (by omega) l2 l3 hv0 u1 hq1 hq2
    · rw [(insL_perm x lv).length_eq]
      simp
      omega
  have add : ∀ k, k ≤ lv.length → Cal l X M_AL_add3 1 20 [.ref (s + 2), .int (nI k), .ref v] n F (lsQ X n F ow (s + 2) (vs.take k ++ v :: vs.drop k) none) := fun k hk => c_AL_add3 (by omega) hl1 hvo (dl_O (X := X) l2 l3) (by omega) (by omega) (by omega)
  have key : ∀ (d k : Nat), k + d = lv.length → (∀ j, j < k → (dAt lv j).1 < x.1) → Ev l X M_Sh_insertLive 1 20 2 [(0, .ref s), (1, .ref v), (2, .int (nI k))] [] n F (ev_mq X (lvQ X n F ow s gs sg (insL x lv))) := by
    intro d
    induction d with
    | zero =>
      intro k hk a
      have e1 : k = lv.length := by omega
      have hle : nI lv.length ≤ nI k := (nI_leI (by omega) (by omega)).mpr (by omega)
      refine s_Sh_insertLive_2 (bc46 := 1) (bs46 := 20) (rc46 := 0) (rs46 := 0) (v18 := 0) (iv18_id := 0) (v18_terms := 0) (bc46_2 := 0) (bs46_2 := 0) (rc46_2 := 0) (rs46_2 := 0) (Q46_2 := fun _ _ _ => False) h1 c1 (by omega) (by omega) d1 (by omega) (by omega) (dl_size hdl) (fun _ => add k (by omega)) (fun _ => fin k (by omega) a (Or.inl e1)) ?_ ?_ ?_ ?_ ?_
      all_goals exact fun z => absurd hle z
    | succ d ih =>
      intro k hk a
      have hgt : ¬ nI lv.length ≤ nI k := i_ge (by omega) (by omega) (by omega)
      obtain ⟨w, k1, k2⟩ := dl_get (l := l) (n := n) hdl (show k < lv.length by omega)
      obtain ⟨tt, f, q1, -, -, -, -, q6, -⟩ := k2
      refine s_Sh_insertLive_2 (bc46 := 1) (bs46 := 20) (rc46 := 0) (rs46 := 0) (Q46 := fun _ _ _ => False) (v18 := w) (bc46_2 := 1) (bs46_2 := 20) (rc46_2 := 0) (rs46_2 := 0) h1 c1 (by omega) (by omega) d1 (by omega) (by omega) (dl_size hdl) (fun z => absurd z hgt) (fun z => absurd z hgt) (fun _ => k1) (fun _ => q1) (fun _ _ => add k (by omega)) (fun _ b => fin k (by omega) a (Or.inr ?_)) (fun _ b => ?_)
      · have := (nI_leI (by omega) (by omega)).mp b
        omega
      · rw [nI_1]
        refine ih (k + 1) (by omega) (fun j hj => ?_)
        by_cases g : j = k
        · subst g
          exact Nat.lt_of_not_le fun z => b ((nI_leI (by omega) (by omega)).mpr z)
        · exact a j (by omega)
  exact Cal.of (by decide) (Nat.le_of_ble_eq_true rfl) (s_Sh_insertLive_0 (key lv.length 0 (by omega) (fun j hj => absurd hj (Nat.not_lt_zero _))))
/-- the live ones of a segment go behind a list -/
def cpQ (X : ev_X) (n : Nat) (F : ev_H) (ow : Nat → Nat) (L : Nat) (ds : List Doc) : Option Value → Nat → ev_H → Prop := fun v n' F' => v = none ∧ n ≤ n' ∧ ∃ ow', (∀ x c, F x = some c → ow' x = ow x) ∧ (∀ x, x < n → ow' x = ow x) ∧ dlI X F' ow' L ds ∧ kp ow (fun x => 1 < x ∧ x ≠ L) F F'
theorem c_Sg_copyLive {g m L : Nat} {ds es : List Doc} (h : sgI X F ow g ds m) (hL : dlI X F ow L es) (w1 : ow L = 1) (h1L : 1 < L) (hgL : g ≠ L) (hgL1 : g + 1 ≠ L) (h24 : es.length + ds.length ≤ 24) : Cal l X M_Sg_copyLive 12 480 [.ref g, .ref L] n F (cpQ X n F ow L (es ++ livS (ds, m))) := by
  refine Cal.of (by decide) (Nat.le_of_ble_eq_true rfl) (ev_fresh fun fr0 => ?_)
  have hlen : ds.length ≤ 12 := h.2.2.2.2.2.2
  obtain ⟨eL, mcL, cL⟩ := dl_cell hL
  have hLn : L < n := kn fr0 cL
  have key : ∀ (t a : List Doc) (k : Nat) (n' : Nat) (G : ev_H) (ow' : Nat → Nat), ds = a ++ t → k = a.length → n ≤ n' → sgI X G ow' g ds m → dlI X G ow' L (es ++ livS (a, m)) → (∀ x, x < n → ow' x = ow x) → kp ow (fun x => 1 < x ∧ x ≠ L) F G → Ev l X M_Sg_copyLive t.length (40 * t.length) 2 [(0, .ref g), (1, .ref L), (2, .int (nI k))] [] n' G (ev_mq X (cpQ X n F ow L (es ++ livS (ds, m)))) := by
    intro t
    induction t with
    | nil =>
      intro a k n' G ow' hds hk hn hS hD u hK
      rw [List.append_nil] at hds
      subst hds
      subst hk
      obtain ⟨e1, mc1, c1⟩ := dl_cell hS.2.1
      obtain ⟨e2, mc2, c2⟩ := dl_cell hD
      have hle : nI ds.length ≤ nI ds.length := (nI_leI (by omega) (by omega)).mpr (Nat.le_refl _)
      refine s_Sg_copyLive_2 (v15 := 0) (v27 := 0) (iv27_id := 0) (v27_terms := 0) (bc33 := 0) (bs33 := 0) (rc33 := 0) (rs33 := 0) (Q33 := fun _ _ _ => False) hS.1 c1 c2 (by omega) (by omega) (dl_size hS.2.1) (fun _ => ⟨rfl, hn, ow', fun y c hy => u y (kn fr0 hy), u, hD, hK⟩) ?_ ?_ ?_ ?_ ?_ ?_
      all_goals exact fun z => absurd hle z
    | cons x t ih =>
      intro a k n' G ow' hds hk hn hS hD u hK
      subst hk
      have hll : ds.length = a.length + (t.length + 1) := by rw [hds]; simp
      obtain ⟨e1, mc1, c1⟩ := dl_cell hS.2.1
      obtain ⟨e2, mc2, c2⟩ := dl_cell hD
      have hgt : ¬ nI ds.length ≤ nI a.length := i_ge (by omega) (by omega) (by omega)
      obtain ⟨w, k1, k2⟩ := dl_get (l := l) (n := n') hS.2.1 (show a.length < ds.length by omega)
      have ex : dAt ds a.length = x := by
        unfold dAt
        rw [List.getD_eq_getElem?_getD, hds, get_mid]
        rfl
      have hlive := c_Sg_isLive (l := l) (n := n') hS (show a.length < ds.length by omega)
      rw [ex] at k2 hlive
      have k3 := k2
      obtain ⟨tt, f, q1, -⟩ := k2
      have hD0 := hD
      obtain ⟨vs, l1, l2, l3⟩ := hD
      have hes : (livS (a, m)).length ≤ a.length := List.length_filter_le _ _
      have hvs : vs.length ≤ 24 := by rw [l2, List.length_append]; omega
      have ela : livS (a ++ [x], m) = livS (a, m) ++ livS ([x], m) := List.filter_append ..
      have hwL : ow' L = 1 := by rw [u L hLn]; exact w1
      have hnx : ∀ n2 G2 ow2, n ≤ n2 → sgI X G2 ow2 g ds m → dlI X G2 ow2 L (es ++ livS (a ++ [x], m)) → (∀ x, x < n → ow2 x = ow x) → kp ow (fun x => 1 < x ∧ x ≠ L) F G2 → Ev l X M_Sg_copyLive t.length (40 * t.length) 2 [(0, .ref g), (1, .ref L), (2, .int (nI (a.length + 1)))] [] n2 G2 (ev_mq X (cpQ X n F ow L (es ++ livS (ds, m)))) := fun n2 G2 ow2 q1 q2 q3 q4 q5 => ih (a ++ [x]) (a.length + 1) n2 G2 ow2 (by rw [hds]; simp) (by simp) q1 q2 q3 q4 q5
      refine s_Sg_copyLive_2 (v15 := bI (!m.testBit x.1)) (v27 := w) (bc33 := 1) (bs33 := 40) (rc33 := t.length) (rs33 := 40 * t.length) hS.1 c1 c2 (by simp) (by simp; omega) (dl_size hS.2.1) (fun z => absurd z hgt) (fun _ => hlive) (fun _ b => ?_) (fun _ _ => k1) (fun _ _ => q1) (fun _ _ => c_AL_addB l1 k3.o (dl_O (X := X) l2 l3) (by omega) (by omega) (by omega)) (fun _ b => ?_)
      · have hb := bI_1.mp b
        rw [nI_1]
        have e0 : livS (a ++ [x], m) = livS (a, m) := by
          rw [ela]
          have : m.testBit x.1 = true := by simpa using hb
          simp [livS, this]
        refine Ev.room (by simp) (by simp; omega) (hnx n' G ow' hn hS ?_ u hK)
        rw [e0]
        exact hD0
      · have hb := bI_n0 b
        rintro _ n2 G2 ⟨rfl, hn2, ow2, z1, z2, hq1, hq2⟩
        have hk2 := kp_ls hq2 hwL h1L
        have e0 : livS (a ++ [x], m) = livS (a, m) ++ [x] := by
          rw [ela]
          have : m.testBit x.1 = false := by simpa using hb
          simp [livS, this]
        refine s_Sg_copyLive_36 ?_
        rw [nI_1]
        have h1g := hS.2.2.2.2.2.1
        refine hnx n2 G2 ow2 (by omega) (sg_kp hS hk2 ⟨h1g, hgL⟩ ⟨by omega, hgL1⟩ z1) ?_ (fun y hy => (z2 y (by omega)).trans (u y hy)) (kp_t hK hk2 (fun y c hy => u y (kn fr0 hy)))
        rw [e0, ← List.append_assoc]
        exact dl_app l1 (by omega) l2 l3 k3 z1 hq1 hq2
  refine s_Sg_copyLive_0 (Ev.room hlen (by omega) (key ds [] 0 n F ow rfl rfl (Nat.le_refl _) h ?_ (fun _ _ => rfl) kp_r))
  simpa [livS] using hL
end Sh2
