/-! class and reference together -/
section MOA
variable {B G : ev_H} {r q : Nat} {d ro se st fu wr to he re we d2 ro2 se2 st2 fu2 wr2 to2 he2 re2 we2 : Int32} {ai ai2 : Nat → Nat → Int32} {al al2 : Nat → Nat → Int64}
theorem mo_out (hq : q < r ∨ r + 20 ≤ q) : moH B r d ro se st fu wr to he re we ai al q = B q := by
  unfold moH
  rw [if_neg (show ¬ q = r by omega), if_neg (show ¬ q = r + 1 by omega), if_neg (show ¬ q = r + 2 by omega), if_neg (show ¬ q = r + 3 by omega), if_neg (show ¬ q = r + 4 by omega), if_neg (show ¬ q = r + 5 by omega), if_neg (show ¬ q = r + 6 by omega), if_neg (show ¬ q = r + 7 by omega), if_neg (show ¬ q = r + 8 by omega), if_neg (show ¬ q = r + 9 by omega), if_neg (show ¬ q = r + 10 by omega), if_neg (show ¬ q = r + 11 by omega), if_neg (show ¬ q = r + 12 by omega), if_neg (show ¬ q = r + 13 by omega), if_neg (show ¬ q = r + 14 by omega), if_neg (show ¬ q = r + 15 by omega), if_neg (show ¬ q = r + 16 by omega), if_neg (show ¬ q = r + 17 by omega), if_neg (show ¬ q = r + 18 by omega), if_neg (show ¬ q = r + 19 by omega)]
theorem mo_in (h1 : r ≤ q) (h2 : q < r + 20) : moH B r d ro se st fu wr to he re we ai al q = moH G r d ro se st fu wr to he re we ai al q := by
  unfold moH
  by_cases g0 : q = r
  · rw [if_pos g0, if_pos g0]
  rw [if_neg g0, if_neg g0]
  by_cases g1 : q = r + 1
  · rw [if_pos g1, if_pos g1]
  rw [if_neg g1, if_neg g1]
  by_cases g2 : q = r + 2
  · rw [if_pos g2, if_pos g2]
  rw [if_neg g2, if_neg g2]
  by_cases g3 : q = r + 3
  · rw [if_pos g3, if_pos g3]
  rw [if_neg g3, if_neg g3]
  by_cases g4 : q = r + 4
  · rw [if_pos g4, if_pos g4]
  rw [if_neg g4, if_neg g4]
  by_cases g5 : q = r + 5
  · rw [if_pos g5, if_pos g5]
  rw [if_neg g5, if_neg g5]
  by_cases g6 : q = r + 6
  · rw [if_pos g6, if_pos g6]
  rw [if_neg g6, if_neg g6]
  by_cases g7 : q = r + 7
  · rw [if_pos g7, if_pos g7]
  rw [if_neg g7, if_neg g7]
  by_cases g8 : q = r + 8
  · rw [if_pos g8, if_pos g8]
  rw [if_neg g8, if_neg g8]
  by_cases g9 : q = r + 9
  · rw [if_pos g9, if_pos g9]
  rw [if_neg g9, if_neg g9]
  by_cases g10 : q = r + 10
  · rw [if_pos g10, if_pos g10]
  rw [if_neg g10, if_neg g10]
  by_cases g11 : q = r + 11
  · rw [if_pos g11, if_pos g11]
  rw [if_neg g11, if_neg g11]
  by_cases g12 : q = r + 12
  · rw [if_pos g12, if_pos g12]
  rw [if_neg g12, if_neg g12]
  by_cases g13 : q = r + 13
  · rw [if_pos g13, if_pos g13]
  rw [if_neg g13, if_neg g13]
  by_cases g14 : q = r + 14
  · rw [if_pos g14, if_pos g14]
  rw [if_neg g14, if_neg g14]
  by_cases g15 : q = r + 15
  · rw [if_pos g15, if_pos g15]
  rw [if_neg g15, if_neg g15]
  by_cases g16 : q = r + 16
  · rw [if_pos g16, if_pos g16]
  rw [if_neg g16, if_neg g16]
  by_cases g17 : q = r + 17
  · rw [if_pos g17, if_pos g17]
  rw [if_neg g17, if_neg g17]
  by_cases g18 : q = r + 18
  · rw [if_pos g18, if_pos g18]
  rw [if_neg g18, if_neg g18]
  by_cases g19 : q = r + 19
  · rw [if_pos g19, if_pos g19]
  rw [if_neg g19, if_neg g19]
  omega
theorem mo_some (h1 : r ≤ q) (h2 : q < r + 20) : ∃ c, moH B r d ro se st fu wr to he re we ai al q = some c := by
  unfold moH
  by_cases g0 : q = r
  · exact ⟨_, if_pos g0⟩
  rw [if_neg g0]
  by_cases g1 : q = r + 1
  · exact ⟨_, if_pos g1⟩
  rw [if_neg g1]
  by_cases g2 : q = r + 2
  · exact ⟨_, if_pos g2⟩
  rw [if_neg g2]
  by_cases g3 : q = r + 3
  · exact ⟨_, if_pos g3⟩
  rw [if_neg g3]
  by_cases g4 : q = r + 4
  · exact ⟨_, if_pos g4⟩
  rw [if_neg g4]
  by_cases g5 : q = r + 5
  · exact ⟨_, if_pos g5⟩
  rw [if_neg g5]
  by_cases g6 : q = r + 6
  · exact ⟨_, if_pos g6⟩
  rw [if_neg g6]
  by_cases g7 : q = r + 7
  · exact ⟨_, if_pos g7⟩
  rw [if_neg g7]
  by_cases g8 : q = r + 8
  · exact ⟨_, if_pos g8⟩
  rw [if_neg g8]
  by_cases g9 : q = r + 9
  · exact ⟨_, if_pos g9⟩
  rw [if_neg g9]
  by_cases g10 : q = r + 10
  · exact ⟨_, if_pos g10⟩
  rw [if_neg g10]
  by_cases g11 : q = r + 11
  · exact ⟨_, if_pos g11⟩
  rw [if_neg g11]
  by_cases g12 : q = r + 12
  · exact ⟨_, if_pos g12⟩
  rw [if_neg g12]
  by_cases g13 : q = r + 13
  · exact ⟨_, if_pos g13⟩
  rw [if_neg g13]
  by_cases g14 : q = r + 14
  · exact ⟨_, if_pos g14⟩
  rw [if_neg g14]
  by_cases g15 : q = r + 15
  · exact ⟨_, if_pos g15⟩
  rw [if_neg g15]
  by_cases g16 : q = r + 16
  · exact ⟨_, if_pos g16⟩
  rw [if_neg g16]
  by_cases g17 : q = r + 17
  · exact ⟨_, if_pos g17⟩
  rw [if_neg g17]
  by_cases g18 : q = r + 18
  · exact ⟨_, if_pos g18⟩
  rw [if_neg g18]
  by_cases g19 : q = r + 19
  · exact ⟨_, if_pos g19⟩
  rw [if_neg g19]
  omega
theorem mo_at (h : ∀ q, r ≤ q → q < r + 20 → G q = moH B r d ro se st fu wr to he re we ai al q) : G = moH G r d ro se st fu wr to he re we ai al := by
  funext q
  by_cases g : q < r ∨ r + 20 ≤ q
  · rw [mo_out g]
  · rw [h q (by omega) (by omega)]
    exact mo_in (by omega) (by omega)
theorem mo_mo : moH B r d ro se st fu wr to he re we ai al = moH (moH B r d ro se st fu wr to he re we ai al) r d ro se st fu wr to he re we ai al := mo_at (fun q h1 h2 => rfl)
end MOA
/-- what holds between the class's state and the reference's rows, after c calls -/
def RR (c : Nat) (dr : List Int64) (pd : List Doc) (pm : Nat) (sg : List Seg) (lv : List Doc) (w b : Nat) (ss : List QStep) (h : Nat) (dp : Nat → Nat) (rs : List (Nat × Nat)) (ai : Nat → Nat → Int32) (al : Nat → Nat → Int64) (rl : List PRow) (tk : List PTok) : Prop :=
  (shR sg lv rl ∧ rwR ai al rl) ∧ (∃ pn pt, peR pd pm pn pt ∧ pdA ai al pn pt) ∧ (∀ j, j < dr.length → al 1 j = tg dr j) ∧ (qR ss h dp tk ∧ tkA ai al tk ∧ ∀ i, i < h → ai 12 i = bI (decide (dp i = 0)) ∧ ai 13 i = nI (dp i)) ∧ rsA ai al rs ∧ b ≤ 100 ∧ w ≤ 14 * c ∧ tk.length ≤ c
abbrev bL (n p r : Nat) (ow : Nat → Nat) (gs : List Nat) : Prop := p + 28 ≤ r ∧ r + 20 ≤ n ∧ (∀ i, i < 20 → ow (r + i) = 1) ∧ ∀ g ∈ gs, r + 20 ≤ g
/-- the two objects, in step, after c calls -/
def BI (X : ev_X) (p r c n : Nat) (F : ev_H) : Prop := ∃ ow gs dr pd pm sg lv w b st ss h dp wc rs ai al rl tk, (psI X F ow p gs dr pd pm sg lv w b st ss h dp wc rs) ∧ F = moH F r (nI dr.length) (nI rl.length) (nI sg.length) (bI st) (nI b) (nI w) (nI tk.length) (nI h) (nI rs.length) (nI wc) ai al ∧ bL n p r ow gs ∧ RR c dr pd pm sg lv w b ss h dp rs ai al rl tk
/-- the reference's object stands at r -/
def moK (F : ev_H) (r : Nat) : Prop := ∃ d ro se st fu wr to he re we, F r = some (moO r d ro se st fu wr to he re we)
def bothI (l : Launch) (X : ev_X) (MC MM : ev_M) (bc bs : Nat) (as : List Value) (p r c n : Nat) (F : ev_H) : Prop := ∃ Q, Cal l X MC bc bs (.ref p :: as) n F Q ∧ ∀ v n1 F1, Q v n1 F1 → ∃ a : Int32, v = some (.int a) ∧ moK F1 r ∧ Cal l X MM 0 0 (.ref r :: as) n1 F1 (fun v2 n2 F2 => v2 = some (.int a) ∧ BI X p r (c + 1) n2 F2)
def bothL (l : Launch) (X : ev_X) (MC MM : ev_M) (bc bs : Nat) (as : List Value) (p r c n : Nat) (F : ev_H) : Prop := ∃ Q, Cal l X MC bc bs (.ref p :: as) n F Q ∧ ∀ v n1 F1, Q v n1 F1 → ∃ a : Int64, v = some (.long a) ∧ moK F1 r ∧ Cal l X MM 0 0 (.ref r :: as) n1 F1 (fun v2 n2 F2 => v2 = some (.long a) ∧ BI X p r (c + 1) n2 F2)
section REL
variable {l : Launch} {X : ev_X} {MC MM : ev_M} {bc bs : Nat} {as : List Value} {p r c n : Nat} {F : ev_H} {ow : Nat → Nat} {gs : List Nat} {ai ai' : Nat → Nat → Int32} {al al' : Nat → Nat → Int64} {rl : List PRow} {tk : List PTok} {dr : List Int64} {pd : List Doc} {pm : Nat} {sg : List Seg} {lv : List Doc} {w b : Nat} {st : Bool} {ss : List QStep} {h : Nat} {dp : Nat → Nat} {wc : Nat} {rs : List (Nat × Nat)} {dr' : List Int64} {pd' : List Doc} {pm' : Nat} {sg' : List Seg} {lv' : List Doc} {w' b' : Nat} {st' : Bool} {ss' : List QStep} {h' : Nat} {dp' : Nat → Nat} {wc' : Nat} {rs' : List (Nat × Nat)}
abbrev moQ (c : Nat) (n : Nat) (B : ev_H) (r : Nat) (a : Value) (dr : List Int64) (pd : List Doc) (pm : Nat) (sg : List Seg) (lv : List Doc) (w b : Nat) (st : Bool) (ss : List QStep) (h : Nat) (dp : Nat → Nat) (wc : Nat) (rs : List (Nat × Nat)) : Option Value → Nat → ev_H → Prop := fun v n2 F2 => v = some a ∧ n2 = n ∧ ∃ ai al rl tk, F2 = moH B r (nI dr.length) (nI rl.length) (nI sg.length) (bI st) (nI b) (nI w) (nI tk.length) (nI h) (nI rs.length) (nI wc) ai al ∧ RR (c + 1) dr pd pm sg lv w b ss h dp rs ai al rl tk
theorem both_x {a : Value} (hI : (psI X F ow p gs dr pd pm sg lv w b st ss h dp wc rs)) (hF : F = moH F r (nI dr.length) (nI rl.length) (nI sg.length) (bI st) (nI b) (nI w) (nI tk.length) (nI h) (nI rs.length) (nI wc) ai al) (hL : bL n p r ow gs) (hM : ∀ n1 B, Cal l X MM 0 0 (.ref r :: as) n1 (moH B r (nI dr.length) (nI rl.length) (nI sg.length) (bI st) (nI b) (nI w) (nI tk.length) (nI h) (nI rs.length) (nI wc) ai al) (moQ c n1 B r a dr' pd' pm' sg' lv' w' b' st' ss' h' dp' wc' rs')) : ∀ v n1 F1, psQ X n F ow p gs a dr' pd' pm' sg' lv' w' b' st' ss' h' dp' wc' rs' v n1 F1 → v = some a ∧ moK F1 r ∧ Cal l X MM 0 0 (.ref r :: as) n1 F1 (fun v2 n2 F2 => v2 = some a ∧ BI X p r (c + 1) n2 F2) := by
  rintro v n1 F1 ⟨rfl, ow', gs', ⟨s1, s2, s3, s4⟩, hJ⟩
  obtain ⟨l1, l2, l3, l4⟩ := hL
  have h1p : 1 < p := hI.2.2.2.2.2.2.2.2.2.2.2.1
  have hF1 : F1 = moH F1 r (nI dr.length) (nI rl.length) (nI sg.length) (bI st) (nI b) (nI w) (nI tk.length) (nI h) (nI rs.length) (nI wc) ai al := mo_at (B := F) (fun q h1 h2 => by
    obtain ⟨d, hd⟩ := mo_some (B := F) (d := nI dr.length) (ro := nI rl.length) (se := nI sg.length) (st := bI st) (fu := nI b) (wr := nI w) (to := nI tk.length) (he := nI h) (re := nI rs.length) (we := nI wc) (ai := ai) (al := al) h1 h2
    rw [hd]
    refine s4 q d ?_ (Or.inr (Or.inl ⟨?_, by omega, by omega, Or.inr (by omega), fun hg => ?_⟩))
    · rw [hF]
      exact hd
    · have := l3 (q - r) (by omega)
      rw [show r + (q - r) = q by omega] at this
      exact this
    · have := l4 q hg
      omega)
  have hm : F1 r = some (moO r (nI dr.length) (nI rl.length) (nI sg.length) (bI st) (nI b) (nI w) (nI tk.length) (nI h) (nI rs.length) (nI wc)) := by
    rw [hF1]
    exact if_pos rfl
  refine ⟨rfl, ⟨_, _, _, _, _, _, _, _, _, _, hm⟩, ?_⟩
  rw [hF1]
  refine (hM n1 F1).mono ?_
  rintro _ _ _ ⟨rfl, rfl, ai', al', rl', tk', rfl, hR⟩
  have l3' : ∀ i, i < 20 → ow' (r + i) = 1 := fun i hi => (s2 _ (by omega)).trans (l3 i hi)
  have l4' : ∀ g ∈ gs', r + 20 ≤ g := fun g hg => by
    rcases s3 g hg with h1 | h1
    · exact l4 g h1
    · omega
  refine ⟨rfl, ow', gs', _, _, _, _, _, _, _, _, _, _, _, _, _, ai', al', rl', tk', ?_, mo_mo, ⟨l1, by omega, l3', l4'⟩, hR⟩
  refine ps_kp (C := fun x => 1 < x ∧ (x < r ∨ r + 20 ≤ x)) hJ (fun x d hx hc => ?_) (fun i hi => hJ.2.2.2.2.2.2.2.2.2.1 i hi) (fun _ _ _ => rfl) (fun i hi => by omega) (fun g hg => by have := l4' g hg; omega)
  by_cases g : x < r ∨ r + 20 ≤ x
  · rw [mo_out g]
    exact hx
  · have e1 := l3' (x - r) (by omega)
    rw [show r + (x - r) = x by omega] at e1
    rw [e1] at hc
    omega
theorem both_mk {a : Int32} (hI : (psI X F ow p gs dr pd pm sg lv w b st ss h dp wc rs)) (hF : F = moH F r (nI dr.length) (nI rl.length) (nI sg.length) (bI st) (nI b) (nI w) (nI tk.length) (nI h) (nI rs.length) (nI wc) ai al) (hL : bL n p r ow gs) (hC : Cal l X MC bc bs (.ref p :: as) n F (psQ X n F ow p gs (.int a) dr' pd' pm' sg' lv' w' b' st' ss' h' dp' wc' rs')) (hM : ∀ n1 B, Cal l X MM 0 0 (.ref r :: as) n1 (moH B r (nI dr.length) (nI rl.length) (nI sg.length) (bI st) (nI b) (nI w) (nI tk.length) (nI h) (nI rs.length) (nI wc) ai al) (moQ c n1 B r (.int a) dr' pd' pm' sg' lv' w' b' st' ss' h' dp' wc' rs')) : bothI l X MC MM bc bs as p r c n F :=
  ⟨_, hC, fun v n1 F1 hq => ⟨a, both_x hI hF hL hM v n1 F1 hq⟩⟩
theorem RR_1 (hh : RR c dr pd pm sg lv w b ss h dp rs ai al rl tk) : RR (c + 1) dr pd pm sg lv w b ss h dp rs ai al rl tk := ⟨hh.1, hh.2.1, hh.2.2.1, hh.2.2.2.1, hh.2.2.2.2.1, hh.2.2.2.2.2.1, by have := hh.2.2.2.2.2.2.1; omega, by have := hh.2.2.2.2.2.2.2; omega⟩
theorem both_sm {a : Int32} (hI : (psI X F ow p gs dr pd pm sg lv w b st ss h dp wc rs)) (hF : F = moH F r (nI dr.length) (nI rl.length) (nI sg.length) (bI st) (nI b) (nI w) (nI tk.length) (nI h) (nI rs.length) (nI wc) ai al) (hL : bL n p r ow gs) (hR : RR c dr pd pm sg lv w b ss h dp rs ai al rl tk) (hC : Cal l X MC bc bs (.ref p :: as) n F (psQ X n F ow p gs (.int a) dr pd pm sg lv w b st ss h dp wc rs)) (hM : ∀ n1 B, Cal l X MM 0 0 (.ref r :: as) n1 (moH B r (nI dr.length) (nI rl.length) (nI sg.length) (bI st) (nI b) (nI w) (nI tk.length) (nI h) (nI rs.length) (nI wc) ai al) (ev_pure (.int a) n1 (moH B r (nI dr.length) (nI rl.length) (nI sg.length) (bI st) (nI b) (nI w) (nI tk.length) (nI h) (nI rs.length) (nI wc) ai al))) : bothI l X MC MM bc bs as p r c n F :=
  both_mk hI hF hL hC (fun n1 B => (hM n1 B).mono (fun v n2 F2 e => ⟨e.1, e.2.1, _, _, _, _, e.2.2, RR_1 hR⟩))
theorem ps_bd (hI : (psI X F ow p gs dr pd pm sg lv w b st ss h dp wc rs)) : dr.length ≤ 12 ∧ sg.length ≤ 6 ∧ lv.length ≤ 12 ∧ h ≤ 8 ∧ (∀ i, i < h → dp i ≤ 6) ∧ rs.length ≤ 12 ∧ (∀ y ∈ sg, y.1.length ≤ 12) ∧ pm < 4096 := by
  obtain ⟨-, -, -, e3, e4, -, e6, -, e8, -, -, -, e12⟩ := hI
  obtain ⟨f, -, hf⟩ := e6.2.2.1
  obtain ⟨-, -, -, -, -, hrs, -⟩ := e8
  refine ⟨e12, e4.2.2.2.2.1, e4.2.2.2.2.2, e6.2.2.2.1, fun i hi => (hf i hi).2, hrs, fun y hy => ?_, e3.2.2.1⟩
  obtain ⟨-, k1, -, k3⟩ := e4.2.1
  obtain ⟨i, hi⟩ := List.mem_iff_getElem?.mp hy
  have hlt : i < sg.length := (List.getElem?_eq_some_iff.mp hi).1
  have hg : gs[i]? = some (gs[i]'(by omega)) := List.getElem?_eq_getElem (by omega)
  exact (k3 i _ y hg hi).2.2.2.2.2.2
theorem sum_12 : ∀ (sg : List Seg), (∀ y ∈ sg, y.1.length ≤ 12) → (sg.map (fun y => y.1.length)).sum ≤ 12 * sg.length
  | [], _ => by simp
  | y :: t, h => by
    have := sum_12 t (fun z hz => h z (by simp [hz]))
    have := h y (by simp)
    simp only [List.map_cons, List.sum_cons, List.length_cons]
    omega
theorem rl_len (h : shR sg lv rl) (hs : ∀ y ∈ sg, y.1.length ≤ 12) : rl.length ≤ 12 * sg.length := by
  rw [h.1.length_eq, gRw_len]
  exact sum_12 sg hs
theorem rw_c (h : rwR ai al rl) (e5 : ai' 5 = ai 5) (e6 : ai' 6 = ai 6) (e7 : ai' 7 = ai 7) (e8 : ai' 8 = ai 8) (e9 : al' 9 = al 9) : rwR ai' al' rl := fun q x hx => by
  have := h q x hx
  unfold rA at this ⊢
  rw [e5, e6, e7, e8, e9]
  exact this
theorem pd_c {pn : Nat → Nat} {pt : Nat → List Int64} (h : pdA ai al pn pt) (e2 : ai' 2 = ai 2) (e3 : ai' 3 = ai 3) (e4 : al' 4 = al 4) : pdA ai' al' pn pt := fun i hi => by
  rw [e2, e3, e4]
  exact h i hi
theorem tk_c (h : tkA ai al tk) (e2 : ai' 10 = ai 10) (e3 : al' 11 = al 11) : tkA ai' al' tk := fun j x hx => by
  rw [e2, e3]
  exact h j x hx
theorem rs_c (h : rsA ai al rs) (e2 : ai' 15 = ai 15) (e3 : al' 16 = al 16) : rsA ai' al' rs := fun j x hx => by
  rw [e2, e3]
  exact h j x hx
theorem i_up {i : Int32} {m : Nat} (h : nI (m + 1) ≤ i) (hm : m + 1 < 2 ^ 31) : nI m < i := by
  rw [Int32.le_iff_toInt_le, nI_toInt hm] at h
  rw [Int32.lt_iff_toInt_lt, nI_toInt (by omega)]
  omega
theorem i_dn {i : Int32} {m : Nat} (h : i < 0) (hm : m < 2 ^ 31) (h0 : 0 < m) : i < nI m := by
  rw [Int32.lt_iff_toInt_lt] at h ⊢
  rw [nI_toInt hm]
  have : (0 : Int32).toInt = 0 := by decide
  omega
theorem pd_cn {pn : Nat → Nat} {pt : Nat → List Int64} {z : Int32} {k : Nat} (h : pdA ai al pn pt) (hz : z = nI k) (hk : k < 2 ^ 31) : cn (fun i => ai 2 i == z) 12 = cn (fun i => pn i == k) 12 := cn_congr fun i hi => by
  obtain ⟨h1, h2, -⟩ := h i hi
  rw [h1, hz]
  have e := nI_eq (a := pn i) (b := k) (by omega) hk
  by_cases g : pn i = k
  · simp [g]
  · have g2 : ¬ nI (pn i) = nI k := fun q => g (e.mp q)
    rw [beq_eq_false_iff_ne.mpr g2, beq_eq_false_iff_ne.mpr g]
theorem pd_0 (pt : Nat → List Int64) (h : ∀ i, i < 12 → ai 2 i = 0) : pdA ai al (fun _ => 0) pt := fun i hi => ⟨h i hi, Nat.zero_le 2, fun q => by cases q⟩
end REL
