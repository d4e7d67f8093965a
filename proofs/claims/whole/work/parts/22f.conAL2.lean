/-! ArrayList: grow, add, insert, remove, clear, set; copies of the draft -/
theorem app_get {f : Nat → Option Nat} {vs : List Nat} {v : Nat} (hf : ∀ i, i < vs.length → f i = vs[i]?) : ∀ j, j < vs.length + 1 → va_up f vs.length (some v) j = (vs ++ [v])[j]? := fun j hj => by
  by_cases e : j = vs.length
  · subst e
    simp [va_up]
  · have : j < vs.length := by omega
    simp [va_up, e, hf j this, List.getElem?_append_left this]
theorem ins_get {f : Nat → Option Nat} {vs : List Nat} {v i : Nat} (hi : i ≤ vs.length) (hf : ∀ i, i < vs.length → f i = vs[i]?) : ∀ j, j < vs.length + 1 → va_up (va_cpy f f i (i + 1) (vs.length - i)) i (some v) j = (vs.take i ++ v :: vs.drop i)[j]? := fun j hj => by
  have hl : (vs.take i).length = i := by simp; omega
  by_cases e : j = i
  · subst e
    rw [List.getElem?_append_right (by omega), hl]
    simp [va_up]
  · by_cases g : j < i
    · rw [List.getElem?_append_left (by omega), List.getElem?_take, if_pos g]
      have c : ¬ (i + 1 ≤ j ∧ j < i + 1 + (vs.length - i)) := by omega
      simp only [va_up, va_cpy]
      rw [if_neg e, if_neg c]
      exact hf j (by omega)
    · rw [List.getElem?_append_right (by omega), hl]
      obtain ⟨d, rfl⟩ : ∃ d, j = i + (d + 1) := ⟨j - i - 1, by omega⟩
      rw [show i + (d + 1) - i = d + 1 by omega, List.getElem?_cons_succ, List.getElem?_drop]
      have c : i + 1 ≤ i + (d + 1) ∧ i + (d + 1) < i + 1 + (vs.length - i) := by omega
      simp only [va_up, va_cpy]
      rw [if_neg e, if_pos c, show i + (i + (d + 1) - (i + 1)) = i + d by omega]
      exact hf (i + d) (by omega)
theorem rem_get {f : Nat → Option Nat} {vs : List Nat} {i : Nat} (hi : i < vs.length) (hf : ∀ i, i < vs.length → f i = vs[i]?) : ∀ j, j < vs.length - 1 → va_up (va_cpy f f (i + 1) i (vs.length - 1 - i)) (vs.length - 1) none j = (vs.eraseIdx i)[j]? := fun j hj => by
  rw [List.getElem?_eraseIdx]
  have e : ¬ j = vs.length - 1 := by omega
  by_cases g : j < i
  · have c : ¬ (i ≤ j ∧ j < i + (vs.length - 1 - i)) := by omega
    simp only [va_up, va_cpy]
    rw [if_neg e, if_neg c, if_pos g]
    exact hf j (by omega)
  · have c : i ≤ j ∧ j < i + (vs.length - 1 - i) := by omega
    simp only [va_up, va_cpy]
    rw [if_neg e, if_pos c, if_neg g, show i + 1 + (j - i) = j + 1 by omega]
    exact hf (j + 1) (by omega)
theorem cpy_get {f : Nat → Option Nat} {vs : List Nat} {cap : Nat} (hc : vs.length ≤ cap) (hf : ∀ i, i < vs.length → f i = vs[i]?) : ∀ j, j < vs.length → va_cpy f (fun _ => none) 0 0 cap j = vs[j]? := fun j hj => by
  have c : 0 ≤ j ∧ j < 0 + cap := by omega
  simp only [va_cpy]
  rw [if_pos c, show 0 + (j - 0) = j by omega]
  exact hf j hj
theorem tgL {x : List Value} : ev_tag (.inr (12, x)) ≠ (false, 8) ∧ ev_tag (.inr (12, x)) ≠ (false, 9) ∧ ev_tag (.inr (12, x)) ≠ (false, 10) := ⟨fun h => absurd (congrArg Prod.snd h) (show (12 : Nat) ≠ 8 by decide), fun h => absurd (congrArg Prod.snd h) (show (12 : Nat) ≠ 9 by decide), fun h => absurd (congrArg Prod.snd h) (show (12 : Nat) ≠ 10 by decide)⟩
theorem tgA {x : Nat × vp_A} : ev_tag (.inl x) ≠ (false, 8) ∧ ev_tag (.inl x) ≠ (false, 9) ∧ ev_tag (.inl x) ≠ (false, 10) := ⟨fun h => absurd (congrArg Prod.fst h) (show ¬ true = false by decide), fun h => absurd (congrArg Prod.fst h) (show ¬ true = false by decide), fun h => absurd (congrArg Prod.fst h) (show ¬ true = false by decide)⟩
section ConAL2
variable {l : Launch} {X : ev_X} {n : Nat} {F : ev_H} {ow : Nat → Nat} {L : Nat} {vs : List Nat}
def gwQ (n : Nat) (F : ev_H) (L k cap : Nat) (mc : Int32) (f : Nat → Option Nat) : Option Value → Nat → ev_H → Prop := fun v n' F' => v = some (.ref n) ∧ n' = n + 1 ∧ F n = none ∧ F' = ev_up (ev_up F n (.inl (5, cap, .inr (.inr (.inr (.inr f)))))) L (.inr (12, [.ref n, .int (nI k), .int mc]))
theorem c_AL_growR {B e cap : Nat} {mc : Int32} {f : Nat → Option Nat} (hL : F L = some (.inr (12, [.ref e, .int (nI cap), .int mc]))) (he : F e = some (.inl (5, cap, .inr (.inr (.inr (.inr f)))))) (h1 : 10 ≤ cap) (h2 : cap ≤ 520) (hB : cap + cap / 2 ≤ B) (hO : ∀ i y, i < cap → f i = some y → isO F y) : Cal l X M_AL_grow 1 B [.ref L] n F (gwQ n F L cap (cap + cap / 2) mc (va_cpy f (fun _ => none) 0 0 cap)) := by
  have hp : 0 < nI cap := (nI_ltI (a := 0) (by decide) (by omega)).mpr (by omega)
  have g2 : Cal l X M_AL_grow2 1 B [.ref L, .int (nI (cap + 1))] n F (gwQ n F L cap (cap + cap / 2) mc (va_cpy f (fun _ => none) 0 0 cap)) := by
    refine Cal.of (by decide) (Nat.le_of_ble_eq_true rfl) (s_AL_grow2_0 (bc37 := 1) (bs37 := cap + cap / 2) (rc37 := 0) (rs37 := 0) (bc37_2 := 0) (bs37_2 := 0) (rc37_2 := 0) (rs37_2 := 0) (rc52 := 0) (rs52 := 0) (N52 := 0) (v27_2 := 0) (Q37_2 := fun _ _ _ => False) hL he (by omega) (by omega) (by omega) (by omega) (by omega) (by omega) (fun _ => c_ASup_newLength h1 (by omega)) (fun _ => c_Arr_copyOf2 he (by omega) (by omega) hO) (fun _ => ?_) ?_ ?_ ?_ ?_ ?_ ?_ ?_)
    · rintro _ _ _ ⟨rfl, rfl, h4, rfl⟩
      have hne : L ≠ n := fun z => by subst z; rw [hL] at h4; cases h4
      exact s_AL_grow2_40 (by rw [eu_n hne]; exact hL) ⟨rfl, rfl, h4, rfl⟩
    all_goals exact fun z => absurd hp z
  refine Cal.of (by decide) (Nat.le_of_ble_eq_true rfl) (s_AL_grow_0 (rc7 := 0) (rs7 := 0) (bc7 := 1) (bs7 := B) (Q7 := gwQ n F L cap (cap + cap / 2) mc (va_cpy f (fun _ => none) 0 0 cap)) hL (by omega) (by omega) (by rw [nI_1]; exact g2) ?_)
  rintro _ _ _ ⟨rfl, rfl, h4, rfl⟩
  exact s_AL_grow_10 ⟨rfl, rfl, h4, rfl⟩
theorem c_AL_growE {B : Nat} {mc : Int32} (hB : 10 ≤ B) (hL : F L = some (.inr (12, [.ref (X.2.2.2.1 1), .int (nI 0), .int mc]))) : Cal l X M_AL_grow 1 B [.ref L] n F (gwQ n F L 0 10 mc (fun _ => none)) := by
  have hp : ¬ 0 < nI 0 := by decide
  have g2 : Cal l X M_AL_grow2 1 B [.ref L, .int (nI 1)] n F (gwQ n F L 0 10 mc (fun _ => none)) := by
    refine Cal.of (by decide) (Nat.le_of_ble_eq_true rfl) (ev_fresh fun fr => ?_)
    have hnn : F n = none := fr n (Nat.le_refl n)
    refine s_AL_grow2E_0 (bc37 := 0) (bs37 := 0) (rc37 := 0) (rs37 := 0) (rc52 := 0) (rs52 := 0) (N52 := 10) (v27 := 0) (Q37 := fun _ _ _ => False) hL (by omega) (by omega) (by omega) (by omega) ?_ ?_ ?_ (fun _ => by decide) (fun _ => by decide) (fun _ => by decide) (fun _ => ⟨rfl, rfl, hnn, rfl⟩)
    all_goals exact fun z => absurd z hp
  refine Cal.of (by decide) (Nat.le_of_ble_eq_true rfl) (s_AL_grow_0 (rc7 := 0) (rs7 := 0) (bc7 := 1) (bs7 := B) (Q7 := gwQ n F L 0 10 mc (fun _ => none)) hL (by omega) (by omega) (by rw [nI_1]; exact g2) ?_)
  rintro _ _ _ ⟨rfl, rfl, h4, rfl⟩
  exact s_AL_grow_10 ⟨rfl, rfl, h4, rfl⟩
/-- the end of add: the new one is laid down -/
theorem e_AL_add2 {G : ev_H} {e cap v : Nat} {r2 : Nat} {mc : Int32} {f : Nat → Option Nat} {bc bs n' : Nat} {ow' : Nat → Nat} (hL : G L = some (.inr (12, [.ref e, .int (nI vs.length), .int mc]))) (he : G e = some (.inl (5, cap, .inr (.inr (.inr (.inr f)))))) (hw : ow' e = L) (h1 : vs.length < cap) (h2 : 10 ≤ cap) (h3 : cap ≤ 780) (hf : ∀ i, i < vs.length → f i = vs[i]?) (hv : isO G v) (hr : r2 = e) (hn : n ≤ n') (hwA : ∀ x c, F x = some c → ow' x = ow x) (hwB : ∀ x, x < n → ow' x = ow x) (hF : lsF ow L F G) (hFe : ∀ c, F e = some c → ow e = L) : Ev l X M_AL_add2 bc bs 11 [(0, .ref L), (1, .ref v), (2, .ref r2), (3, .int (nI vs.length))] [] n' G (ev_mq X (lsQ X n F ow L (vs ++ [v]) none)) := by
  subst hr
  have hne : r2 ≠ L := ev_ne_ao he hL
  refine s_AL_add2_11 he hL (vp_in_nI h1 (by omega)) hv ⟨rfl, hn, ow', hwA, hwB, ⟨r2, mc, ?_, Or.inr ⟨cap, va_up f vs.length (some v), ?_, hw, by simp; omega, h2, h3, ?_⟩⟩, ?_⟩
  · rw [eu_y, nI_1]
    simp
  · rw [eu_n hne, nI_clamp (by omega)]
    exact eu_y
  · intro j hj
    exact app_get hf j (by simpa using hj)
  · intro x c hx a b
    have : x ≠ r2 := fun z => by subst z; exact b (hFe c hx)
    rw [eu_n a, eu_n this]
    exact hF x c hx a b
theorem c_AL_addB {B v : Nat} (h : lsI X F ow L vs) (hv : isO F v) (hO : ∀ y ∈ vs, isO F y) (hlen : vs.length < 520) (hB0 : 10 ≤ B) (hB : vs.length + vs.length / 2 ≤ B) : Cal l X M_AL_add 1 B [.ref L, .ref v] n F (lsQ X n F ow L (vs ++ [v]) (some (.int 1))) := by
  refine Cal.of (by decide) (Nat.le_of_ble_eq_true rfl) (ev_fresh fun fr => ?_)
  have hnn : F n = none := fr n (Nat.le_refl n)
  obtain ⟨e, mc, h1, hc⟩ := h
  have hLn : L ≠ n := fun z => by subst z; rw [h1] at hnn; cases hnn
  have fin : ∀ v2 n2 F2, lsQ X n F ow L (vs ++ [v]) none v2 n2 F2 → Ev l X M_AL_add 0 0 23 [(0, .ref L), (1, .ref v)] (v2.toList ++ []) n2 F2 (ev_mq X (lsQ X n F ow L (vs ++ [v]) (some (.int 1)))) := by
    rintro _ _ _ ⟨rfl, hq⟩
    exact s_AL_add_23 ⟨rfl, hq⟩
  refine s_AL_add_0 (rc20 := 0) (rs20 := 0) (bc20 := 1) (bs20 := B) h1 (by omega) (by omega) ?_ fin
  have hL1 : ev_up F L (.inr (12, [.ref e, .int (nI vs.length), .int (mc + 1)])) L = some (.inr (12, [.ref e, .int (nI vs.length), .int (mc + 1)])) := eu_y
  have hF1 : lsF ow L F (ev_up F L (.inr (12, [.ref e, .int (nI vs.length), .int (mc + 1)]))) := fun x c hx a _ => by rw [eu_n a]; exact hx
  have hO1 : ∀ y, isO F y → isO (ev_up F L (.inr (12, [.ref e, .int (nI vs.length), .int (mc + 1)]))) y := fun y hy => isO_u hy h1 tgL
  rcases hc with ⟨rfl, rfl⟩ | ⟨cap, f, he, hw, hlc, h10, h780, hf⟩
  · refine Cal.of (by decide) (Nat.le_of_ble_eq_true rfl) (s_AL_add2E_0 (rc7 := 0) (rs7 := 0) (bc7 := 1) (bs7 := B) hL1 (by omega) (by omega) (fun z => absurd rfl z) (fun _ => c_AL_growE hB0 hL1) (fun _ => ?_))
    rintro _ _ _ ⟨rfl, rfl, h4, rfl⟩
    refine s_AL_add2E_10 (e_AL_add2 (vs := []) (e := n) (cap := 10) (mc := mc + 1) (f := fun _ => none) (ow' := va_up ow n L) eu_y ?_ (by simp [va_up]) (by decide) (by decide) (by decide) (fun i hi => absurd hi (Nat.not_lt_zero _)) ?_ rfl (by omega) ?_ ?_ ?_ ?_)
    · rw [eu_n (Ne.symm hLn)]
      exact eu_y
    · exact isO_u (isO_f (hO1 v hv) h4) (by rw [eu_n hLn]; exact hL1) tgL
    · intro x c hx
      have : x ≠ n := fun z => by subst z; rw [hx] at hnn; cases hnn
      simp [va_up, this]
    · intro x hx
      have : x ≠ n := by omega
      simp [va_up, this]
    · intro x c hx a b
      have : x ≠ n := fun z => by subst z; rw [hx] at hnn; cases hnn
      rw [eu_n a, eu_n this]
      exact hF1 x c hx a b
    · intro c hx
      rw [hnn] at hx
      cases hx
  · have heL : e ≠ L := ev_ne_ao he h1
    have hen : e ≠ n := fun z => by subst z; rw [he] at hnn; cases hnn
    have he1 : ev_up F L (.inr (12, [.ref e, .int (nI vs.length), .int (mc + 1)])) e = some (.inl (5, cap, .inr (.inr (.inr (.inr f))))) := by rw [eu_n heL]; exact he
    refine Cal.of (by decide) (Nat.le_of_ble_eq_true rfl) (s_AL_add2_0 (rc7 := 0) (rs7 := 0) (bc7 := 1) (bs7 := B) (Q7 := gwQ n (ev_up F L (.inr (12, [.ref e, .int (nI vs.length), .int (mc + 1)]))) L cap (cap + cap / 2) (mc + 1) (va_cpy f (fun _ => none) 0 0 cap)) he1 hL1 (by omega) (by omega) (fun a => ?_) (fun a => ?_) (fun a => ?_))
    · have : vs.length < cap := by
        have : vs.length ≠ cap := fun z => a (by rw [z])
        omega
      exact e_AL_add2 (ow' := ow) hL1 he1 hw this h10 h780 hf (hO1 v hv) rfl (Nat.le_refl n) (fun _ _ _ => rfl) (fun _ _ => rfl) hF1 (fun _ _ => hw)
    · have e1 : vs.length = cap := (nI_eq (by omega) (by omega)).mp a
      rw [e1] at hL1 hO1 he1 ⊢
      refine c_AL_growR hL1 he1 h10 (by omega) (by omega) (fun i y hi hy => hO1 y (hO y ?_))
      rw [hf i (by omega)] at hy
      exact List.mem_of_getElem? hy
    · have e1 : vs.length = cap := (nI_eq (by omega) (by omega)).mp a
      rintro _ _ _ ⟨rfl, rfl, h4, rfl⟩
      refine s_AL_add2_10 (e_AL_add2 (e := n) (cap := cap + cap / 2) (mc := mc + 1) (f := va_cpy f (fun _ => none) 0 0 cap) (ow' := va_up ow n L) (by rw [e1]; exact eu_y) ?_ (by simp [va_up]) (by omega) (by omega) (by omega) (cpy_get (by omega) hf) ?_ rfl (by omega) ?_ ?_ ?_ ?_)
      · rw [eu_n (Ne.symm hLn)]
        exact eu_y
      · exact isO_u (isO_f (hO1 v hv) h4) (by rw [eu_n hLn]; exact hL1) tgL
      · intro x c hx
        have : x ≠ n := fun z => by subst z; rw [hx] at hnn; cases hnn
        simp [va_up, this]
      · intro x hx
        have : x ≠ n := by omega
        simp [va_up, this]
      · intro x c hx a b
        have : x ≠ n := fun z => by subst z; rw [hx] at hnn; cases hnn
        rw [eu_n a, eu_n this]
        exact hF1 x c hx a b
      · intro c hx
        rw [hnn] at hx
        cases hx
theorem c_AL_add {v : Nat} (h : lsI X F ow L vs) (hv : isO F v) (hO : ∀ y ∈ vs, isO F y) (hlen : vs.length < 520) : Cal l X M_AL_add 1 780 [.ref L, .ref v] n F (lsQ X n F ow L (vs ++ [v]) (some (.int 1))) := c_AL_addB h hv hO hlen (by omega) (by omega)
end ConAL2
