/-! the JDK's string methods on our string constants: contracts -/
/-- the first place from j on, of k places, that holds v; -1 if none -/
def ixo (f : Nat → Int32) (v : Int32) : Nat → Nat → Int32
  | 0, _ => -1
  | k + 1, j => if f j = v then nI j else ixo f v k (j + 1)
/-- the bytes of string i -/
def sb (i j : Nat) : Int32 := (ev_sby.getD i []).getD j 0
theorem sln_ok : ∀ i, i < 14 → 0 < ev_sln.getD i 0 ∧ ev_sln.getD i 0 ≤ 5 := by decide +kernel
theorem sb_ok : ∀ i, i < 14 → ∀ j, j < ev_sln.getD i 0 → ((sb i j &&& 255).toUInt32 % 65536).toInt32 = sb i j ∧ narrow .char (.int (sb i j)) = .int (sb i j) := by decide +kernel
section ConStr
variable {l : Launch} {X : ev_X} {n : Nat} {F : ev_H}
theorem c_Str_coder {a i : Nat} (h : ev_isS X a i) : Cal l X M_Str_coder 0 0 [.ref a] n F (ev_pure (.int 0) n F) :=
  Cal.of (by decide) (Nat.le_of_ble_eq_true rfl) (s_Str_coder_0 h ⟨rfl, rfl, rfl⟩)
theorem c_Str_isLatin1 {a i : Nat} (h : ev_isS X a i) : Cal l X M_Str_isLatin1 0 0 [.ref a] n F (ev_pure (.int 1) n F) :=
  Cal.of (by decide) (Nat.le_of_ble_eq_true rfl) (s_Str_isLatin1_0 h ⟨rfl, rfl, rfl⟩)
theorem c_Str_length {a i : Nat} (h : ev_isS X a i) : Cal l X M_Str_length 0 0 [.ref a] n F (ev_pure (.int (nI (ev_sln.getD i 0))) n F) := by
  refine Cal.of (by decide) (Nat.le_of_ble_eq_true rfl) (s_Str_length_0 (v6 := 0) h (c_Str_coder h) ⟨?_, rfl, rfl⟩)
  rw [sc_shr0 (by have := sln_ok i h.1; omega)]
theorem c_Lat_canEncode {c : Nat} (h : c ≤ 255) : Cal l X M_Lat_canEncode 0 0 [.int (nI c)] n F (ev_pure (.int 1) n F) := by
  refine Cal.of (by decide) (Nat.le_of_ble_eq_true rfl) (s_Lat_canEncode_0 (fun a => absurd a (nI_pos (by omega))) (fun _ a => ?_) (fun _ _ => ⟨rfl, rfl, rfl⟩))
  have := (nI_ltI (a := 255) (by decide) (by omega)).mp a
  omega
theorem c_Lat_indexOfChar {a N : Nat} {f : Nat → Int32} {c : Int32} (hT : ev_T X .byte a N (fun j => .int (f j))) (hN : N < 2 ^ 20) : Cal l X M_Lat_indexOfChar 0 0 [.ref a, .int c, .int 0, .int (nI N)] n F (ev_pure (.int (ixo f c.toInt8.toInt32 N 0)) n F) := by
  have key : ∀ (e k : Nat), k + e = N → Ev l X M_Lat_indexOfChar 0 0 7 [(0, .ref a), (1, .int c), (2, .int 0), (3, .int (nI N)), (4, .int c.toInt8.toInt32), (5, .int (nI k))] [] n F (ev_mq X (ev_pure (.int (ixo f c.toInt8.toInt32 e k)) n F)) := by
    intro e
    induction e with
    | zero =>
      intro k hk
      have hle : nI N ≤ nI k := (nI_leI (by omega) (by omega)).mpr (by omega)
      refine s_Lat_indexOfChar_7 hT (fun _ => ⟨rfl, rfl, rfl⟩) ?_ ?_ ?_
      all_goals exact fun z => absurd hle z
    | succ e ih =>
      intro k hk
      have hgt : ¬ nI N ≤ nI k := i_ge (by omega) (by omega) (by omega)
      refine s_Lat_indexOfChar_7 hT (fun z => absurd z hgt) (fun _ => vp_in_nI (by omega) (by omega)) (fun _ b => ?_) (fun _ b => ⟨?_, rfl, rfl⟩)
      · rw [nI_clamp (by omega)] at b
        rw [nI_1]
        have hi := ih (k + 1) (by omega)
        unfold ixo
        rw [if_neg b]
        exact hi
      · rw [nI_clamp (by omega)] at b
        unfold ixo
        rw [if_pos b]
  exact Cal.of (by decide) (Nat.le_of_ble_eq_true rfl) (s_Lat_indexOfChar_0 (key N 0 (by omega)))
theorem c_Lat_indexOf {a N : Nat} {f : Nat → Int32} {c : Nat} (hT : ev_T X .byte a N (fun j => .int (f j))) (hN : N < 2 ^ 20) (h0 : 0 < N) (hc : c ≤ 255) : Cal l X M_Lat_indexOf 0 0 [.ref a, .int (nI c), .int 0, .int (nI N)] n F (ev_pure (.int (ixo f (nI c).toInt8.toInt32 N 0)) n F) := by
  have e1 : (if (0 : Int32) < 0 then (0 : Int32) else 0) = 0 := rfl
  have e2 : (if nI N < nI N then nI N else nI N) = nI N := by split <;> rfl
  have e3 : (0 : Int32) < nI N := (nI_ltI (a := 0) (by decide) (by omega)).mpr h0
  refine Cal.of (by decide) (Nat.le_of_ble_eq_true rfl) (s_Lat_indexOf_0 (v1 := 1) (v33 := ixo f (nI c).toInt8.toInt32 N 0) hT (c_Lat_canEncode hc) (fun _ _ => ?_) (fun _ _ => ⟨rfl, rfl, rfl⟩) (fun _ z => ?_) (fun z => absurd z (by decide)))
  · rw [e1, e2]
    exact c_Lat_indexOfChar hT hN
  · rw [e1, e2] at z
    exact absurd e3 z
theorem c_Str_indexOf {a i c : Nat} (h : ev_isS X a i) (hc : c ≤ 255) : Cal l X M_Str_indexOf 0 0 [.ref a, .int (nI c)] n F (ev_pure (.int (ixo (sb i) (nI c).toInt8.toInt32 (ev_sln.getD i 0) 0)) n F) := by
  have hs := sln_ok i h.1
  refine Cal.of (by decide) (Nat.le_of_ble_eq_true rfl) (s_Str_indexOf_0 (v3 := ixo (sb i) (nI c).toInt8.toInt32 (ev_sln.getD i 0) 0) h ?_ ⟨rfl, rfl, rfl⟩)
  exact Cal.of (by decide) (Nat.le_of_ble_eq_true rfl) (s_Str_indexOf2_0 (v1 := 1) (v30 := 0) (v33 := 0) (v14 := nI (ev_sln.getD i 0)) (v17 := ixo (sb i) (nI c).toInt8.toInt32 (ev_sln.getD i 0) 0) h (c_Str_isLatin1 h) (fun z => absurd z (by decide)) (fun z => absurd z (by decide)) (fun z => absurd z (by decide)) (fun _ => c_Str_length h) (fun _ => c_Lat_indexOf (f := sb i) (evT_str h.1) (by omega) hs.1 hc) (fun _ => ⟨rfl, rfl, rfl⟩))
theorem e_Pre_checkIndex {i k : Nat} (h : i < k) (hk : k < 2 ^ 31) : Ev l X M_Pre_checkIndex 0 0 0 [(0, .int (nI i)), (1, .int (nI k))] [] n F (ev_mq X (ev_pure (.int (nI i)) n F)) :=
  s_Pre_checkIndex_0 (fun z => absurd z (nI_pos (by omega))) (fun _ _ => ⟨rfl, rfl, rfl⟩) (fun _ z => absurd ((nI_ltI (by omega) hk).mpr h) z)
theorem c_Pre_checkIndexN {i k : Nat} (h : i < k) (hk : k < 2 ^ 31) : Cal l X M_Pre_checkIndex 0 0 [.int (nI i), .int (nI k), .null] n F (ev_pure (.int (nI i)) n F) :=
  Cal.of (by decide) (Nat.le_of_ble_eq_true rfl) (Ev.sub [0, 1] rfl (e_Pre_checkIndex h hk))
theorem c_Pre_checkIndexR {i k t : Nat} (h : i < k) (hk : k < 2 ^ 31) : Cal l X M_Pre_checkIndex 0 0 [.int (nI i), .int (nI k), .ref t] n F (ev_pure (.int (nI i)) n F) :=
  Cal.of (by decide) (Nat.le_of_ble_eq_true rfl) (Ev.sub [0, 1] rfl (e_Pre_checkIndex h hk))
theorem c_Obs_checkIndex {i k : Nat} (h : i < k) (hk : k < 2 ^ 31) : Cal l X M_Obs_checkIndex 0 0 [.int (nI i), .int (nI k)] n F (ev_pure (.int (nI i)) n F) :=
  Cal.of (by decide) (Nat.le_of_ble_eq_true rfl) (s_Obs_checkIndex_0 (v3 := nI i) (c_Pre_checkIndexN h hk) ⟨rfl, rfl, rfl⟩)
theorem c_Str_checkIndex {i k : Nat} (h : i < k) (hk : k < 2 ^ 31) : Cal l X M_Str_checkIndex 0 0 [.int (nI i), .int (nI k)] n F (ev_void n F) :=
  Cal.of (by decide) (Nat.le_of_ble_eq_true rfl) (s_Str_checkIndex_0 (v5 := nI i) (v5_2 := nI i) (fun _ => c_Pre_checkIndexN h hk) (fun _ => ⟨rfl, rfl, rfl⟩) (fun _ => c_Pre_checkIndexR h hk) (fun _ => ⟨rfl, rfl, rfl⟩))
theorem c_Str_charAt {a i j : Nat} (h : ev_isS X a i) (hj : j < ev_sln.getD i 0) : Cal l X M_Str_charAt 0 0 [.ref a, .int (nI j)] n F (ev_pure (.int (sb i j)) n F) := by
  have hs := sln_ok i h.1
  obtain ⟨b1, b2⟩ := sb_ok i h.1 j hj
  have ecl : (nI j).toNatClampNeg = j := nI_clamp (by omega)
  refine Cal.of (by decide) (Nat.le_of_ble_eq_true rfl) (s_Str_charAt_0 (v1 := 1) (v21 := 0) (v12 := sb i j) h (c_Str_isLatin1 h) (fun z => absurd z (by decide)) (fun z => absurd z (by decide)) (fun z => absurd z (by decide)) (fun _ => ?_) (fun _ => ⟨rfl, rfl, rfl⟩) (fun _ => b2))
  refine Cal.of (by decide) (Nat.le_of_ble_eq_true rfl) (s_Lat_charAt_0 (r0_f := sb i) (evT_str h.1) (c_Str_checkIndex hj (by omega)) (vp_in_nI hj (by omega)) ⟨?_, rfl, rfl⟩ ?_)
  · rw [ecl, b1]
  · rw [ecl, b1]
    exact b2
end ConStr
