/-! ArrayList: insert, remove, clear, set; copies of the draft -/
section ConAL3
variable {l : Launch} {X : ev_X} {n : Nat} {F : ev_H} {ow : Nat → Nat} {L : Nat} {vs : List Nat}
theorem e_AL_add3 {G : ev_H} {e cap v i : Nat} {r4 : Nat} {mc : Int32} {f : Nat → Option Nat} {bc bs n' : Nat} {ow' : Nat → Nat} (hi : i ≤ vs.length) (hL : G L = some (.inr (12, [.ref e, .int (nI vs.length), .int mc]))) (he : G e = some (.inl (5, cap, .inr (.inr (.inr (.inr f)))))) (hw : ow' e = L) (h1 : vs.length < cap) (h2 : 10 ≤ cap) (h3 : cap ≤ 780) (hf : ∀ i, i < vs.length → f i = vs[i]?) (hv : isO G v) (hO : ∀ y ∈ vs, isO G y) (hr : r4 = e) (hn : n ≤ n') (hwA : ∀ x c, F x = some c → ow' x = ow x) (hwB : ∀ x, x < n → ow' x = ow x) (hF : lsF ow L F G) (hFe : ∀ c, F e = some c → ow e = L) : Ev l X M_AL_add3 bc bs 38 [(0, .ref L), (1, .int (nI i)), (2, .ref v), (3, .int (nI vs.length)), (4, .ref r4)] [] n' G (ev_mq X (lsQ X n F ow L (vs.take i ++ v :: vs.drop i) none)) := by
  subst hr
  have hne : r4 ≠ L := ev_ne_ao he hL
  have a1 : nI i + 1 = nI (i + 1) := nI_1 i
  have a2 : nI vs.length - nI i = nI (vs.length - i) := pk_sub hi
  have c0 : (nI i).toNatClampNeg = i := nI_clamp (by omega)
  have c1 : (nI (i + 1)).toNatClampNeg = i + 1 := nI_clamp (by omega)
  have c2 : (nI (vs.length - i)).toNatClampNeg = vs.length - i := nI_clamp (by omega)
  have hl : (vs.take i ++ v :: vs.drop i).length = vs.length + 1 := by simp; omega
  refine s_AL_add3_38 he hL ?_ ?_ (vp_in_nI (by omega) (by omega)) (isO_u hv he tgA) ⟨rfl, hn, ow', hwA, hwB, ⟨r4, mc, ?_, Or.inr ⟨cap, va_up (va_cpy f f i (i + 1) (vs.length - i)) i (some v), ?_, hw, by omega, h2, h3, ?_⟩⟩, ?_⟩
  · rw [a1, a2, c0, c1, c2]
    exact ⟨⟨nI_pos (by omega), nI_pos (by omega), nI_pos (by omega)⟩, by omega, by omega⟩
  · rw [a2, c0, c2]
    intro j hj y hy
    rw [hf (i + j) (by omega)] at hy
    exact hO y (List.mem_of_getElem? hy)
  · rw [eu_y, nI_1, hl]
  · rw [eu_n hne, a1, a2, c0, c1, c2]
    exact eu_y
  · intro j hj
    exact ins_get hi hf j (by omega)
  · intro x c hx a b
    have : x ≠ r4 := fun z => by subst z; exact b (hFe c hx)
    rw [eu_n a, eu_n this, eu_n this]
    exact hF x c hx a b
theorem c_AL_add3 {B v i : Nat} (hi : i ≤ vs.length) (h : lsI X F ow L vs) (hv : isO F v) (hO : ∀ y ∈ vs, isO F y) (hlen : vs.length < 520) (hB0 : 10 ≤ B) (hB : vs.length + vs.length / 2 ≤ B) : Cal l X M_AL_add3 1 B [.ref L, .int (nI i), .ref v] n F (lsQ X n F ow L (vs.take i ++ v :: vs.drop i) none) := by
  refine Cal.of (by decide) (Nat.le_of_ble_eq_true rfl) (ev_fresh fun fr => ?_)
  have hnn : F n = none := fr n (Nat.le_refl n)
  have hrc := c_AL_rangeCheck (l := l) (n := n) h hi
  obtain ⟨e, mc, h1, hc⟩ := h
  have hLn : L ≠ n := fun z => by subst z; rw [h1] at hnn; cases hnn
  have hL1 : ev_up F L (.inr (12, [.ref e, .int (nI vs.length), .int (mc + 1)])) L = some (.inr (12, [.ref e, .int (nI vs.length), .int (mc + 1)])) := eu_y
  have hF1 : lsF ow L F (ev_up F L (.inr (12, [.ref e, .int (nI vs.length), .int (mc + 1)]))) := fun x c hx a _ => by rw [eu_n a]; exact hx
  have hO1 : ∀ y, isO F y → isO (ev_up F L (.inr (12, [.ref e, .int (nI vs.length), .int (mc + 1)]))) y := fun y hy => isO_u hy h1 tgL
  have A : ∀ x c, F x = some c → va_up ow n L x = ow x := fun x c hx => by
    have : x ≠ n := fun z => by subst z; rw [hx] at hnn; cases hnn
    simp [va_up, this]
  have B2 : ∀ x, x < n → va_up ow n L x = ow x := fun x hx => by
    have : x ≠ n := by omega
    simp [va_up, this]
  have C : ∀ {c1 c2 : ev_C}, lsF ow L F (ev_up (ev_up (ev_up F L (.inr (12, [.ref e, .int (nI vs.length), .int (mc + 1)]))) n c1) L c2) := fun {c1 c2} x c hx a b => by
    have : x ≠ n := fun z => by subst z; rw [hx] at hnn; cases hnn
    rw [eu_n a, eu_n this]
    exact hF1 x c hx a b
  have D : ∀ c, F n = some c → ow n = L := fun c hx => by rw [hnn] at hx; cases hx
  rcases hc with ⟨rfl, rfl⟩ | ⟨cap, f, he, hw, hlc, h10, h780, hf⟩
  · refine s_AL_add3E_0 (rc33 := 0) (rs33 := 0) (bc33 := 1) (bs33 := B) h1 (by omega) (by omega) hrc (fun z => absurd rfl z) (fun _ => c_AL_growE hB0 hL1) (fun _ => ?_)
    rintro _ _ _ ⟨rfl, rfl, h4, rfl⟩
    refine s_AL_add3E_36 (e_AL_add3 (vs := []) (e := n) (cap := 10) (mc := mc + 1) (f := fun _ => none) (ow' := va_up ow n L) hi eu_y ?_ (by simp [va_up]) (by decide) (by decide) (by decide) (fun i hi => absurd hi (Nat.not_lt_zero _)) ?_ (fun y hy => by cases hy) rfl (by omega) A B2 C D)
    · rw [eu_n (Ne.symm hLn)]
      exact eu_y
    · exact isO_u (isO_f (hO1 v hv) h4) (by rw [eu_n hLn]; exact hL1) tgL
  · have heL : e ≠ L := ev_ne_ao he h1
    have he1 : ev_up F L (.inr (12, [.ref e, .int (nI vs.length), .int (mc + 1)])) e = some (.inl (5, cap, .inr (.inr (.inr (.inr f))))) := by rw [eu_n heL]; exact he
    refine s_AL_add3_0 (rc33 := 0) (rs33 := 0) (bc33 := 1) (bs33 := B) (Q33 := gwQ n (ev_up F L (.inr (12, [.ref e, .int (nI vs.length), .int (mc + 1)]))) L cap (cap + cap / 2) (mc + 1) (va_cpy f (fun _ => none) 0 0 cap)) h1 he (by omega) (by omega) hrc (fun a => ?_) (fun a => ?_) (fun a => ?_)
    · have : vs.length < cap := by
        have : vs.length ≠ cap := fun z => a (by rw [z])
        omega
      exact e_AL_add3 (ow' := ow) hi hL1 he1 hw this h10 h780 hf (hO1 v hv) (fun y hy => hO1 y (hO y hy)) rfl (Nat.le_refl n) (fun _ _ _ => rfl) (fun _ _ => rfl) hF1 (fun _ _ => hw)
    · have e1 : vs.length = cap := (nI_eq (by omega) (by omega)).mp a
      rw [e1] at hL1 hO1 he1 ⊢
      refine c_AL_growR hL1 he1 h10 (by omega) (by omega) (fun i y hi hy => hO1 y (hO y ?_))
      rw [hf i (by omega)] at hy
      exact List.mem_of_getElem? hy
    · have e1 : vs.length = cap := (nI_eq (by omega) (by omega)).mp a
      rintro _ _ _ ⟨rfl, rfl, h4, rfl⟩
      have hO2 : ∀ y, isO F y → isO (ev_up (ev_up (ev_up F L (.inr (12, [.ref e, .int (nI vs.length), .int (mc + 1)]))) n (.inl (5, cap + cap / 2, .inr (.inr (.inr (.inr (va_cpy f (fun _ => none) 0 0 cap))))))) L (.inr (12, [.ref n, .int (nI cap), .int (mc + 1)]))) y := fun y hy => isO_u (isO_f (hO1 y hy) h4) (by rw [eu_n hLn]; exact hL1) tgL
      refine s_AL_add3_36 (e_AL_add3 (e := n) (cap := cap + cap / 2) (mc := mc + 1) (f := va_cpy f (fun _ => none) 0 0 cap) (ow' := va_up ow n L) hi (by rw [e1]; exact eu_y) ?_ (by simp [va_up]) (by omega) (by omega) (by omega) (cpy_get (by omega) hf) (hO2 v hv) (fun y hy => hO2 y (hO y hy)) rfl (by omega) A B2 C D)
      rw [eu_n (Ne.symm hLn)]
      exact eu_y
theorem c_AL_remove {v i : Nat} (h : lsI X F ow L vs) (hv : vs[i]? = some v) (hO : ∀ y ∈ vs, isO F y) : Cal l X M_AL_remove 0 0 [.ref L, .int (nI i)] n F (lsQ0 X n F ow L (vs.eraseIdx i) (some (.ref v))) := by
  have hi : i < vs.length := (List.getElem?_eq_some_iff.mp hv).1
  have hl := ls_len h
  obtain ⟨e, mc, h1, ⟨-, rfl⟩ | ⟨cap, f, he, hw, hlc, h10, h780, hf⟩⟩ := h
  · exact absurd hi (Nat.not_lt_zero _)
  have hne : e ≠ L := ev_ne_ao he h1
  have s1 : nI vs.length - 1 = nI (vs.length - 1) := pk_sub (b := 1) (by omega)
  have el : (vs.eraseIdx i).length = vs.length - 1 := by rw [List.length_eraseIdx, if_pos hi]
  have hO1 : ∀ y, isO F y → isO (ev_up F L (.inr (12, [.ref e, .int (nI vs.length), .int (mc + 1)]))) y := fun y hy => isO_u hy h1 tgL
  have fr : Cal l X M_AL_fastRemove 0 0 [.ref L, .ref e, .int (nI i)] n F (lsQ0 X n F ow L (vs.eraseIdx i) none) := by
    refine Cal.of (by decide) (Nat.le_of_ble_eq_true rfl) (s_AL_fastRemove_0 h1 he (fun _ => ?_) (fun a => ?_) (fun a => ?_) (fun a => ?_) (fun _ => ?_) (fun a => ?_))
    · rw [s1]
      exact vp_in_nI (by omega) (by omega)
    · rw [s1] at a
      have e1 : i = vs.length - 1 := by
        have := (nI_leI (by omega) (by omega)).mp a
        omega
      refine ⟨rfl, rfl, ⟨e, mc + 1, ?_, Or.inr ⟨cap, va_up f (vs.length - 1) none, ?_, hw, by omega, h10, h780, ?_⟩⟩, ?_⟩
      · rw [eu_n (Ne.symm hne), eu_y, el, s1]
      · rw [s1, nI_clamp (by omega)]
        exact eu_y
      · intro j hj
        rw [el] at hj
        have := rem_get hi hf j hj
        have z : vs.length - 1 - i = 0 := by omega
        rw [z] at this
        have c : ¬ (i ≤ j ∧ j < i + 0) := by omega
        rw [← this]
        have c2 : ¬ (i ≤ j ∧ j < i) := by omega
        simp [va_up, va_cpy, c2]
      · intro x c hx a b
        have : x ≠ e := fun z => by subst z; exact b hw
        rw [eu_n this, eu_n a, eu_n a]
        exact hx
    · rw [s1] at a
      have lt : i < vs.length - 1 := Nat.lt_of_not_le fun z => a ((nI_leI (by omega) (by omega)).mpr z)
      rw [s1, nI_1, pk_sub (by omega), nI_clamp (by omega), nI_clamp (by omega), nI_clamp (by omega)]
      exact ⟨⟨nI_pos (by omega), nI_pos (by omega), nI_pos (by omega)⟩, by omega, by omega⟩
    · rw [s1] at a
      have lt : i < vs.length - 1 := Nat.lt_of_not_le fun z => a ((nI_leI (by omega) (by omega)).mpr z)
      rw [s1, nI_1, pk_sub (by omega), nI_clamp (by omega), nI_clamp (by omega)]
      intro j hj y hy
      rw [hf _ (by omega)] at hy
      exact hO1 y (hO y (List.mem_of_getElem? hy))
    · rw [s1]
      exact vp_in_nI (by omega) (by omega)
    · rw [s1] at a
      have lt : i < vs.length - 1 := Nat.lt_of_not_le fun z => a ((nI_leI (by omega) (by omega)).mpr z)
      refine ⟨rfl, rfl, ⟨e, mc + 1, ?_, Or.inr ⟨cap, va_up (va_cpy f f (i + 1) i (vs.length - 1 - i)) (vs.length - 1) none, ?_, hw, by omega, h10, h780, ?_⟩⟩, ?_⟩
      · rw [eu_n (Ne.symm hne), eu_y, el, s1]
      · rw [s1, nI_1, pk_sub (by omega), nI_clamp (by omega), nI_clamp (by omega), nI_clamp (by omega), nI_clamp (by omega)]
        exact eu_y
      · intro j hj
        rw [el] at hj
        exact rem_get hi hf j hj
      · intro x c hx a b
        have : x ≠ e := fun z => by subst z; exact b hw
        rw [eu_n this, eu_n a, eu_n this, eu_n a]
        exact hx
  refine Cal.of (by decide) (Nat.le_of_ble_eq_true rfl) (s_AL_remove_0 (x16 := v) (rc21 := 0) (rs21 := 0) h1 he (Nat.le_refl 0) (Nat.le_refl 0) (c_Obs_checkIndex hi (by omega)) (vp_in_nI (by omega) (by omega)) ?_ fr ?_)
  · rw [nI_clamp (by omega), hf i hi, hv]
  · rintro _ _ _ ⟨rfl, hq⟩
    exact s_AL_remove_24 ⟨rfl, hq⟩
theorem c_AL_clear (h : lsI X F ow L vs) : Cal l X M_AL_clear 0 0 [.ref L] n F (lsQ0 X n F ow L [] none) := by
  have hl := ls_len h
  obtain ⟨e, mc, h1, ⟨rfl, rfl⟩ | ⟨cap, f, he, hw, hlc, h10, h780, hf⟩⟩ := h
  · refine Cal.of (by decide) (Nat.le_of_ble_eq_true rfl) (s_AL_clearE_0 h1 (s_AL_clearE_27 (fun _ => ⟨rfl, rfl, ⟨_, mc + 1, eu_y, Or.inl ⟨rfl, rfl⟩⟩, fun x c hx a b => ?_⟩) (fun z => absurd (by decide) z)))
    rw [eu_n a, eu_n a]
    exact hx
  · have hne : e ≠ L := ev_ne_ao he h1
    have key : ∀ (d k : Nat), k + d = vs.length → ∀ (G : ev_H) (g : Nat → Option Nat), G L = some (.inr (12, [.ref e, .int 0, .int (mc + 1)])) → G e = some (.inl (5, cap, .inr (.inr (.inr (.inr g))))) → lsF ow L F G → Ev l X M_AL_clear 0 0 27 [(0, .ref L), (1, .ref e), (2, .int (nI vs.length)), (3, .int (nI k))] [] n G (ev_mq X (lsQ0 X n F ow L [] none)) := by
      intro d
      induction d with
      | zero =>
        intro k hk G g hG hGe hF
        have hle : nI vs.length ≤ nI k := (nI_leI (by omega) (by omega)).mpr (by omega)
        refine s_AL_clear_27 hGe (fun _ => ⟨rfl, rfl, ⟨e, mc + 1, hG, Or.inr ⟨cap, g, hGe, hw, Nat.zero_le _, h10, h780, fun i hi => absurd hi (Nat.not_lt_zero _)⟩⟩, hF⟩) ?_ ?_
        all_goals exact fun z => absurd hle z
      | succ d ih =>
        intro k hk G g hG hGe hF
        have hgt : ¬ nI vs.length ≤ nI k := i_ge (by omega) (by omega) (by omega)
        refine s_AL_clear_27 hGe (fun z => absurd z hgt) (fun _ => vp_in_nI (by omega) (by omega)) (fun _ => ?_)
        rw [nI_1]
        refine ih (k + 1) (by omega) _ _ (by rw [eu_n (Ne.symm hne)]; exact hG) eu_y (fun x c hx a b => ?_)
        have : x ≠ e := fun z => by subst z; exact b hw
        rw [eu_n this]
        exact hF x c hx a b
    refine Cal.of (by decide) (Nat.le_of_ble_eq_true rfl) (s_AL_clear_0 h1 (key vs.length 0 (by omega) _ f eu_y (by rw [eu_n hne, eu_n hne]; exact he) (fun x c hx a b => ?_)))
    rw [eu_n a, eu_n a]
    exact hx
theorem c_AL_set {v i w : Nat} (h : lsI X F ow L vs) (hv : vs[i]? = some v) (hw : isO F w) : Cal l X M_AL_set 0 0 [.ref L, .int (nI i), .ref w] n F (lsQ0 X n F ow L (vs.set i w) (some (.ref v))) := by
  have hi : i < vs.length := (List.getElem?_eq_some_iff.mp hv).1
  have hl := ls_len h
  have hh := h
  obtain ⟨e, mc, h1, ⟨-, rfl⟩ | ⟨cap, f, he, hwo, hlc, h10, h780, hf⟩⟩ := h
  · exact absurd hi (Nat.not_lt_zero _)
  have hne : e ≠ L := ev_ne_ao he h1
  refine Cal.of (by decide) (Nat.le_of_ble_eq_true rfl) (s_AL_set_0 h1 he (c_Obs_checkIndex hi (by omega)) (c_AL_elementData hh hv) (vp_in_nI (by omega) (by omega)) hw ⟨rfl, rfl, ⟨e, mc, ?_, Or.inr ⟨cap, va_up f i (some w), ?_, hwo, by simp; omega, h10, h780, ?_⟩⟩, ?_⟩)
  · rw [eu_n (Ne.symm hne), List.length_set]
    exact h1
  · rw [nI_clamp (by omega)]
    exact eu_y
  · intro j hj
    rw [List.length_set] at hj
    rw [List.getElem?_set]
    by_cases z : i = j
    · subst z
      simp [va_up, hi]
    · have z' : ¬ j = i := fun q => z q.symm
      simp [va_up, z, z', hf j hj]
  · intro x c hx a b
    have : x ≠ e := fun z => by subst z; exact b hwo
    rw [eu_n this]
    exact hx
/-- the first k of a row of longs, as a new row -/
theorem c_Arr_copyOf {a N k : Nat} {f : Nat → Int64} (h : F a = some (.inl (1, N, .inr (.inl f)))) (hk : k ≤ N) (hN : N ≤ 600) : Cal l X M_Arr_copyOf 1 N [.ref a, .int (nI k)] n F (fun v n' F' => v = some (.ref n) ∧ n' = n + 1 ∧ F n = none ∧ ∃ g, (∀ j, j < k → g j = f j) ∧ F' = ev_up F n (.inl (1, k, .inr (.inl g)))) := by
  refine Cal.of (by decide) (Nat.le_of_ble_eq_true rfl) (ev_fresh fun fr => ?_)
  have hnn : F n = none := fr n (Nat.le_refl n)
  have hne : a ≠ n := fun z => by subst z; rw [h] at hnn; cases hnn
  have z0 : (0 : Int32).toNatClampNeg = 0 := by decide
  have lt : ¬ nI k = nI N → (if nI k < nI N then nI k else nI N) = nI k := fun z => by
    have : k ≠ N := fun e => z (by rw [e])
    rw [if_pos ((nI_ltI (by omega) (by omega)).mpr (by omega))]
  refine s_Arr_copyOf_0 (N15 := k) (rc15 := 0) (rs15 := 0) (rc7 := 0) (rs7 := 0) h (by omega) (by omega) hne (by omega) (by omega) (fun _ => nI_pos (by omega)) (fun _ => nI_clamp (by omega)) (fun _ => ?_) (fun z => ?_) (fun z => ⟨rfl, rfl, hnn, va_cpy f (fun _ => 0) 0 0 k, ?_, ?_⟩) (fun z => ⟨rfl, rfl, hnn, f, fun _ _ => rfl, ?_⟩)
  · show k * 8 ≤ _
    omega
  · rw [lt z, nI_clamp (by omega), z0]
    exact ⟨⟨by decide, by decide, nI_pos (by omega)⟩, by omega, by omega⟩
  · intro j hj
    have c : 0 ≤ j ∧ j < 0 + k := by omega
    simp only [va_cpy]
    rw [if_pos c, show 0 + (j - 0) = j by omega]
  · rw [lt z, nI_clamp (by omega), z0, ev_uu]
  · have e : k = N := (nI_eq (by omega) (by omega)).mp z
    rw [e]
end ConAL3
