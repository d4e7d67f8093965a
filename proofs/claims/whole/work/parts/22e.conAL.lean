/-! ArrayList and what it calls: contracts -/
/-- how many of the lowest 12 bits are set -/
def popc (m : Nat) : Nat := m % 2 + m / 2 % 2 + m / 4 % 2 + m / 8 % 2 + m / 16 % 2 + m / 32 % 2 + m / 64 % 2 + m / 128 % 2 + m / 256 % 2 + m / 512 % 2 + m / 1024 % 2 + m / 2048 % 2
set_option maxRecDepth 100000 in
theorem bc_ok : ∀ m, m < 4096 → ((((((((nI m) - ((((nI m).toUInt32 >>> ((1 : Int32).toUInt32 &&& Int32.toUInt32 31)).toInt32) &&& 1431655765)) &&& 858993459) + (((((nI m) - ((((nI m).toUInt32 >>> ((1 : Int32).toUInt32 &&& Int32.toUInt32 31)).toInt32) &&& 1431655765)).toUInt32 >>> ((2 : Int32).toUInt32 &&& Int32.toUInt32 31)).toInt32) &&& 858993459)) + ((((((nI m) - ((((nI m).toUInt32 >>> ((1 : Int32).toUInt32 &&& Int32.toUInt32 31)).toInt32) &&& 1431655765)) &&& 858993459) + (((((nI m) - ((((nI m).toUInt32 >>> ((1 : Int32).toUInt32 &&& Int32.toUInt32 31)).toInt32) &&& 1431655765)).toUInt32 >>> ((2 : Int32).toUInt32 &&& Int32.toUInt32 31)).toInt32) &&& 858993459)).toUInt32 >>> ((4 : Int32).toUInt32 &&& Int32.toUInt32 31)).toInt32)) &&& 252645135) + ((((((((nI m) - ((((nI m).toUInt32 >>> ((1 : Int32).toUInt32 &&& Int32.toUInt32 31)).toInt32) &&& 1431655765)) &&& 858993459) + (((((nI m) - ((((nI m).toUInt32 >>> ((1 : Int32).toUInt32 &&& Int32.toUInt32 31)).toInt32) &&& 1431655765)).toUInt32 >>> ((2 : Int32).toUInt32 &&& Int32.toUInt32 31)).toInt32) &&& 858993459)) + ((((((nI m) - ((((nI m).toUInt32 >>> ((1 : Int32).toUInt32 &&& Int32.toUInt32 31)).toInt32) &&& 1431655765)) &&& 858993459) + (((((nI m) - ((((nI m).toUInt32 >>> ((1 : Int32).toUInt32 &&& Int32.toUInt32 31)).toInt32) &&& 1431655765)).toUInt32 >>> ((2 : Int32).toUInt32 &&& Int32.toUInt32 31)).toInt32) &&& 858993459)).toUInt32 >>> ((4 : Int32).toUInt32 &&& Int32.toUInt32 31)).toInt32)) &&& 252645135).toUInt32 >>> ((8 : Int32).toUInt32 &&& Int32.toUInt32 31)).toInt32)) + (((((((((nI m) - ((((nI m).toUInt32 >>> ((1 : Int32).toUInt32 &&& Int32.toUInt32 31)).toInt32) &&& 1431655765)) &&& 858993459) + (((((nI m) - ((((nI m).toUInt32 >>> ((1 : Int32).toUInt32 &&& Int32.toUInt32 31)).toInt32) &&& 1431655765)).toUInt32 >>> ((2 : Int32).toUInt32 &&& Int32.toUInt32 31)).toInt32) &&& 858993459)) + ((((((nI m) - ((((nI m).toUInt32 >>> ((1 : Int32).toUInt32 &&& Int32.toUInt32 31)).toInt32) &&& 1431655765)) &&& 858993459) + (((((nI m) - ((((nI m).toUInt32 >>> ((1 : Int32).toUInt32 &&& Int32.toUInt32 31)).toInt32) &&& 1431655765)).toUInt32 >>> ((2 : Int32).toUInt32 &&& Int32.toUInt32 31)).toInt32) &&& 858993459)).toUInt32 >>> ((4 : Int32).toUInt32 &&& Int32.toUInt32 31)).toInt32)) &&& 252645135) + ((((((((nI m) - ((((nI m).toUInt32 >>> ((1 : Int32).toUInt32 &&& Int32.toUInt32 31)).toInt32) &&& 1431655765)) &&& 858993459) + (((((nI m) - ((((nI m).toUInt32 >>> ((1 : Int32).toUInt32 &&& Int32.toUInt32 31)).toInt32) &&& 1431655765)).toUInt32 >>> ((2 : Int32).toUInt32 &&& Int32.toUInt32 31)).toInt32) &&& 858993459)) + ((((((nI m) - ((((nI m).toUInt32 >>> ((1 : Int32).toUInt32 &&& Int32.toUInt32 31)).toInt32) &&& 1431655765)) &&& 858993459) + (((((nI m) - ((((nI m).toUInt32 >>> ((1 : Int32).toUInt32 &&& Int32.toUInt32 31)).toInt32) &&& 1431655765)).toUInt32 >>> ((2 : Int32).toUInt32 &&& Int32.toUInt32 31)).toInt32) &&& 858993459)).toUInt32 >>> ((4 : Int32).toUInt32 &&& Int32.toUInt32 31)).toInt32)) &&& 252645135).toUInt32 >>> ((8 : Int32).toUInt32 &&& Int32.toUInt32 31)).toInt32)).toUInt32 >>> ((16 : Int32).toUInt32 &&& Int32.toUInt32 31)).toInt32)) &&& 63 = nI (popc m) := by decide +kernel
/-- the list at L holds vs; what it holds it in belongs to L -/
def lsI (X : ev_X) (F : ev_H) (ow : Nat → Nat) (L : Nat) (vs : List Nat) : Prop := ∃ e mc, F L = some (.inr (12, [.ref e, .int (nI vs.length), .int mc])) ∧ ((e = X.2.2.2.1 1 ∧ vs = []) ∨ ∃ cap f, F e = some (.inl (5, cap, .inr (.inr (.inr (.inr f))))) ∧ ow e = L ∧ vs.length ≤ cap ∧ 10 ≤ cap ∧ cap ≤ 780 ∧ ∀ i, i < vs.length → f i = vs[i]?)
/-- what was known and isn't the list's, still is -/
def lsF (ow : Nat → Nat) (L : Nat) (F F' : ev_H) : Prop := ∀ x c, F x = some c → x ≠ L → ow x ≠ L → F' x = some c
theorem lsF_t {ow ow' : Nat → Nat} {L : Nat} {F G H : ev_H} (hw : ∀ x c, F x = some c → ow' x = ow x) (h : lsF ow L F G) (k : lsF ow' L G H) : lsF ow L F H := fun x c hx h1 h2 => k x c (h x c hx h1 h2) h1 (by rw [hw x c hx]; exact h2)
/-- a list's method that makes nothing new: it answers v, and the list holds vs -/
def lsQ0 (X : ev_X) (n : Nat) (F : ev_H) (ow : Nat → Nat) (L : Nat) (vs : List Nat) (v : Option Value) : Option Value → Nat → ev_H → Prop := fun v' n' F' => v' = v ∧ n' = n ∧ lsI X F' ow L vs ∧ lsF ow L F F'
/-- a list's method that may make a new row -/
def lsQ (X : ev_X) (n : Nat) (F : ev_H) (ow : Nat → Nat) (L : Nat) (vs : List Nat) (v : Option Value) : Option Value → Nat → ev_H → Prop := fun v' n' F' => v' = v ∧ n ≤ n' ∧ ∃ ow', (∀ x c, F x = some c → ow' x = ow x) ∧ (∀ x, x < n → ow' x = ow x) ∧ lsI X F' ow' L vs ∧ lsF ow L F F'
section ConAL
variable {l : Launch} {X : ev_X} {n : Nat} {F : ev_H} {ow : Nat → Nat} {L : Nat} {vs : List Nat}
theorem c_Int_bitCount {m : Nat} (h : m < 4096) : Cal l X M_Int_bitCount 0 0 [.int (nI m)] n F (ev_pure (.int (nI (popc m))) n F) := by
  refine Cal.of (by decide) (Nat.le_of_ble_eq_true rfl) (s_Int_bitCount_0 ⟨?_, rfl, rfl⟩)
  rw [bc_ok m h]
theorem c_AL_init (h : F L = some (.inr (12, [.null, .int 0, .int 0]))) : Cal l X M_AL_init 0 0 [.ref L] n F (ev_void n (ev_up F L (.inr (12, [.ref (X.2.2.2.1 1), .int 0, .int 0])))) := by
  have h1 : Cal l X M_AbC_init 0 0 [.ref L] n F (ev_void n F) := Cal.of (by decide) (Nat.le_of_ble_eq_true rfl) (s_AbC_init_0 ⟨rfl, rfl, rfl⟩)
  have h2 : Cal l X M_AbL_init 0 0 [.ref L] n F (ev_void n (ev_up F L (.inr (12, [.null, .int 0, .int 0])))) := by
    refine Cal.of (by decide) (Nat.le_of_ble_eq_true rfl) (s_AbL_init_0 (Nat.le_refl 0) (Nat.le_refl 0) h1 ?_)
    rintro _ _ _ ⟨rfl, rfl, rfl⟩
    exact s_AbL_init_4 h ⟨rfl, rfl, rfl⟩
  refine Cal.of (by decide) (Nat.le_of_ble_eq_true rfl) (s_AL_init_0 (Nat.le_refl 0) (Nat.le_refl 0) h2 ?_)
  rintro _ _ _ ⟨rfl, rfl, rfl⟩
  refine s_AL_init_4 eu_y ⟨rfl, rfl, ?_⟩
  rw [ev_uu]
theorem c_AL_size (h : lsI X F ow L vs) : Cal l X M_AL_size 0 0 [.ref L] n F (ev_pure (.int (nI vs.length)) n F) := by
  obtain ⟨e, mc, h1, -⟩ := h
  exact Cal.of (by decide) (Nat.le_of_ble_eq_true rfl) (s_AL_size_0 h1 ⟨rfl, rfl, rfl⟩)
theorem ls_len (h : lsI X F ow L vs) : vs.length ≤ 780 := by
  obtain ⟨e, mc, -, ⟨-, rfl⟩ | ⟨cap, f, -, -, h3, -, h4, -⟩⟩ := h
  · exact Nat.zero_le _
  · omega
theorem c_AL_isEmpty (h : lsI X F ow L vs) : Cal l X M_AL_isEmpty 0 0 [.ref L] n F (ev_pure (.int (bI (decide (vs = [])))) n F) := by
  have hl := ls_len h
  obtain ⟨e, mc, h1, -⟩ := h
  refine Cal.of (by decide) (Nat.le_of_ble_eq_true rfl) (s_AL_isEmpty_0 h1 (fun a => ⟨?_, rfl, rfl⟩) (fun a => ⟨?_, rfl, rfl⟩))
  · have : ¬ vs = [] := fun z => a (by rw [z]; rfl)
    simp [this, bI]
  · have : vs = [] := by
      have := (nI_eq (b := 0) (by omega) (by decide)).mp a
      exact List.length_eq_zero_iff.mp this
    simp [this, bI]
theorem c_AL_elementData {i v : Nat} (h : lsI X F ow L vs) (hv : vs[i]? = some v) : Cal l X M_AL_elementData 0 0 [.ref L, .int (nI i)] n F (ev_pure (.ref v) n F) := by
  have hi : i < vs.length := (List.getElem?_eq_some_iff.mp hv).1
  have hl := ls_len h
  obtain ⟨e, mc, h1, ⟨-, rfl⟩ | ⟨cap, f, h2, -, h3, -, h4, h5⟩⟩ := h
  · exact absurd hi (Nat.not_lt_zero _)
  · refine Cal.of (by decide) (Nat.le_of_ble_eq_true rfl) (s_AL_elementData_0 (x5 := v) h1 h2 (vp_in_nI (by omega) (by omega)) ?_ ⟨rfl, rfl, rfl⟩)
    rw [nI_clamp (by omega), h5 i hi, hv]
theorem c_AL_get {i v : Nat} (h : lsI X F ow L vs) (hv : vs[i]? = some v) : Cal l X M_AL_get 0 0 [.ref L, .int (nI i)] n F (ev_pure (.ref v) n F) := by
  have hi : i < vs.length := (List.getElem?_eq_some_iff.mp hv).1
  have hl := ls_len h
  have hh := h
  obtain ⟨e, mc, h1, -⟩ := h
  exact Cal.of (by decide) (Nat.le_of_ble_eq_true rfl) (s_AL_get_0 h1 (c_Obs_checkIndex hi (by omega)) (c_AL_elementData hh hv) ⟨rfl, rfl, rfl⟩)
theorem c_AL_rangeCheck {i : Nat} (h : lsI X F ow L vs) (hi : i ≤ vs.length) : Cal l X M_AL_rangeCheckForAdd 0 0 [.ref L, .int (nI i)] n F (ev_void n F) := by
  have hl := ls_len h
  obtain ⟨e, mc, h1, -⟩ := h
  refine Cal.of (by decide) (Nat.le_of_ble_eq_true rfl) (s_AL_rangeCheckForAdd_0 h1 (fun a => ?_) (fun _ _ => ⟨rfl, rfl, rfl⟩) (fun _ a => ?_))
  · have := (nI_ltI (by omega) (by omega)).mp a
    omega
  · exact a ((nI_leI (a := 0) (by decide) (by omega)).mpr (by omega))
theorem c_ASup_newLength {cap : Nat} (h1 : 10 ≤ cap) (h2 : cap ≤ 780) : Cal l X M_ASup_newLength 0 0 [.int (nI cap), .int (nI (cap + 1) - nI cap), .int (nI cap >>> (1 &&& 31))] n F (ev_pure (.int (nI (cap + cap / 2))) n F) := by
  have key : ∀ c, c < 781 → 10 ≤ c → nI c + (if nI (c + 1) - nI c < nI c >>> (1 &&& 31) then nI c >>> (1 &&& 31) else nI (c + 1) - nI c) = nI (c + c / 2) := by decide +kernel
  have e := key cap (by omega) h1
  refine Cal.of (by decide) (Nat.le_of_ble_eq_true rfl) (s_ASup_newLength_0 (v23 := 0) (v23_2 := 0) (fun a => ?_) (fun a => ?_) (fun _ a => ?_) (fun _ a => ?_) (fun _ _ => ⟨by rw [e], rfl, rfl⟩))
  · rw [e] at a
    have := (nI_leI (b := 0) (by omega) (by decide)).mp a
    omega
  · rw [e] at a
    have := (nI_leI (b := 0) (by omega) (by decide)).mp a
    omega
  · rw [e] at a
    have := (nI_ltI (a := 2147483639) (by decide) (by omega)).mp a
    omega
  · rw [e] at a
    have := (nI_ltI (a := 2147483639) (by decide) (by omega)).mp a
    omega
theorem isO_u {v a : Nat} {c0 c : ev_C} (h : isO F v) (ha : F a = some c0) (hc : ev_tag c0 ≠ (false, 8) ∧ ev_tag c0 ≠ (false, 9) ∧ ev_tag c0 ≠ (false, 10)) : isO (ev_up F a c) v := by
  obtain ⟨ci, fs, h1, h2⟩ := h
  refine ⟨ci, fs, ?_, h2⟩
  have : v ≠ a := fun e => by
    subst e
    rw [h1] at ha
    cases ha
    rcases h2 with rfl | rfl | rfl
    · exact hc.1 rfl
    · exact hc.2.1 rfl
    · exact hc.2.2 rfl
  rw [eu_n this]
  exact h1
theorem isO_f {v : Nat} {c : ev_C} (h : isO F v) (hn : F n = none) : isO (ev_up F n c) v := by
  obtain ⟨ci, fs, h1, h2⟩ := h
  refine ⟨ci, fs, ?_, h2⟩
  have : v ≠ n := fun e => by subst e; rw [h1] at hn; cases hn
  rw [eu_n this]
  exact h1
/-- a longer row with the same first ones -/
theorem c_Arr_copyOf2 {e cap m : Nat} {f : Nat → Option Nat} (h : F e = some (.inl (5, cap, .inr (.inr (.inr (.inr f)))))) (hm : cap ≤ m) (hm2 : m ≤ 1200) (hO : ∀ i y, i < cap → f i = some y → isO F y) : Cal l X M_Arr_copyOf2 1 m [.ref e, .int (nI m)] n F (fun v n' F' => v = some (.ref n) ∧ n' = n + 1 ∧ F n = none ∧ F' = ev_up F n (.inl (5, m, .inr (.inr (.inr (.inr (va_cpy f (fun _ => none) 0 0 cap))))))) := by
  have hmin : (if nI m < nI cap then nI m else nI cap) = nI cap := by
    rw [if_neg]
    intro z
    have := (nI_ltI (by omega) (by omega)).mp z
    omega
  have z0 : (0 : Int32).toNatClampNeg = 0 := by decide
  have h3 : Cal l X M_Arr_copyOf3 1 m [.ref e, .int (nI m), .ref (X.2.2.2.1 3)] n F (fun v n' F' => v = some (.ref n) ∧ n' = n + 1 ∧ F n = none ∧ F' = ev_up F n (.inl (5, m, .inr (.inr (.inr (.inr (va_cpy f (fun _ => none) 0 0 cap))))))) := by
    refine Cal.of (by decide) (Nat.le_of_ble_eq_true rfl) (ev_fresh fun fr => ?_)
    have hnn : F n = none := fr n (Nat.le_refl n)
    have hne : e ≠ n := fun z => by subst z; rw [h] at hnn; cases hnn
    refine s_Arr_copyOf3_0 (rc7 := 0) (rs7 := 0) (N7 := m) (by omega) (by omega) h hne (nI_pos (by omega)) (nI_clamp (by omega)) (by omega) ?_ ?_ ⟨rfl, rfl, hnn, ?_⟩
    · rw [hmin, nI_clamp (by omega), z0]
      exact ⟨⟨by decide, by decide, nI_pos (by omega)⟩, by omega, by omega⟩
    · rw [hmin, nI_clamp (by omega), z0]
      intro i hi y hy
      rw [Nat.zero_add] at hy
      exact isO_f (hO i y hi hy) hnn
    · rw [hmin, nI_clamp (by omega), z0, ev_uu]
  refine Cal.of (by decide) (Nat.le_of_ble_eq_true rfl) (s_Arr_copyOf2_0 (rc6 := 0) (rs6 := 0) h (by omega) (by omega) h3 ?_)
  rintro _ _ _ ⟨rfl, rfl, h4, h5⟩
  exact s_Arr_copyOf2_9 ⟨rfl, rfl, h4, h5⟩
end ConAL
