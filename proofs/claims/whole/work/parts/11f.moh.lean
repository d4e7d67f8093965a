/-! the reference's cells as one world: B with the reference laid at r -/
def moH (B : ev_H) (r : Nat) (d ro se st fu wr to he re we : Int32) (ai : Nat → Nat → Int32) (al : Nat → Nat → Int64) : ev_H := fun q =>
  if q = r then some (moO r d ro se st fu wr to he re we)
  else if q = r + 1 then some (.inl (1, 12, .inr (.inl (al 1))))
  else if q = r + 2 then some (.inl (0, 12, .inl (ai 2)))
  else if q = r + 3 then some (.inl (0, 12, .inl (ai 3)))
  else if q = r + 4 then some (.inl (1, 144, .inr (.inl (al 4))))
  else if q = r + 5 then some (.inl (0, 80, .inl (ai 5)))
  else if q = r + 6 then some (.inl (0, 80, .inl (ai 6)))
  else if q = r + 7 then some (.inl (2, 80, .inl (ai 7)))
  else if q = r + 8 then some (.inl (0, 80, .inl (ai 8)))
  else if q = r + 9 then some (.inl (1, 960, .inr (.inl (al 9))))
  else if q = r + 10 then some (.inl (0, 520, .inl (ai 10)))
  else if q = r + 11 then some (.inl (1, 520, .inr (.inl (al 11))))
  else if q = r + 12 then some (.inl (2, 8, .inl (ai 12)))
  else if q = r + 13 then some (.inl (0, 8, .inl (ai 13)))
  else if q = r + 14 then some (.inl (2, 8, .inl (ai 14)))
  else if q = r + 15 then some (.inl (0, 12, .inl (ai 15)))
  else if q = r + 16 then some (.inl (1, 12, .inr (.inl (al 16))))
  else if q = r + 17 then some (.inl (0, 12, .inl (ai 17)))
  else if q = r + 18 then some (.inl (1, 12, .inr (.inl (al 18))))
  else if q = r + 19 then some (.inl (2, 12, .inl (ai 19)))
  else B q
section MoH
variable {B : ev_H} {r : Nat} {d ro se st fu wr to he re we : Int32} {ai : Nat → Nat → Int32} {al : Nat → Nat → Int64}
theorem mh_0 : (moH B r d ro se st fu wr to he re we ai al) r = some (moO r d ro se st fu wr to he re we) := by simp [moH]
/-- draft -/
theorem mh_1 : (moH B r d ro se st fu wr to he re we ai al) (r + 1) = some (.inl (1, 12, .inr (.inl (al 1)))) := by simp [moH]
/-- pending -/
theorem mh_2 : (moH B r d ro se st fu wr to he re we ai al) (r + 2) = some (.inl (0, 12, .inl (ai 2))) := by simp [moH]
/-- pendingSize -/
theorem mh_3 : (moH B r d ro se st fu wr to he re we ai al) (r + 3) = some (.inl (0, 12, .inl (ai 3))) := by simp [moH]
/-- pendingTerm -/
theorem mh_4 : (moH B r d ro se st fu wr to he re we ai al) (r + 4) = some (.inl (1, 144, .inr (.inl (al 4)))) := by simp [moH]
/-- rowId -/
theorem mh_5 : (moH B r d ro se st fu wr to he re we ai al) (r + 5) = some (.inl (0, 80, .inl (ai 5))) := by simp [moH]
/-- rowSegment -/
theorem mh_6 : (moH B r d ro se st fu wr to he re we ai al) (r + 6) = some (.inl (0, 80, .inl (ai 6))) := by simp [moH]
/-- rowDead -/
theorem mh_7 : (moH B r d ro se st fu wr to he re we ai al) (r + 7) = some (.inl (2, 80, .inl (ai 7))) := by simp [moH]
/-- rowSize -/
theorem mh_8 : (moH B r d ro se st fu wr to he re we ai al) (r + 8) = some (.inl (0, 80, .inl (ai 8))) := by simp [moH]
/-- rowTerm -/
theorem mh_9 : (moH B r d ro se st fu wr to he re we ai al) (r + 9) = some (.inl (1, 960, .inr (.inl (al 9)))) := by simp [moH]
/-- token -/
theorem mh_10 : (moH B r d ro se st fu wr to he re we ai al) (r + 10) = some (.inl (0, 520, .inl (ai 10))) := by simp [moH]
/-- tokenTerm -/
theorem mh_11 : (moH B r d ro se st fu wr to he re we ai al) (r + 11) = some (.inl (1, 520, .inr (.inl (al 11)))) := by simp [moH]
/-- isTerm -/
theorem mh_12 : (moH B r d ro se st fu wr to he re we ai al) (r + 12) = some (.inl (2, 8, .inl (ai 12))) := by simp [moH]
/-- deep -/
theorem mh_13 : (moH B r d ro se st fu wr to he re we ai al) (r + 13) = some (.inl (0, 8, .inl (ai 13))) := by simp [moH]
/-- truth -/
theorem mh_14 : (moH B r d ro se st fu wr to he re we ai al) (r + 14) = some (.inl (2, 8, .inl (ai 14))) := by simp [moH]
/-- resultId -/
theorem mh_15 : (moH B r d ro se st fu wr to he re we ai al) (r + 15) = some (.inl (0, 12, .inl (ai 15))) := by simp [moH]
/-- resultWeight -/
theorem mh_16 : (moH B r d ro se st fu wr to he re we ai al) (r + 16) = some (.inl (1, 12, .inr (.inl (al 16)))) := by simp [moH]
/-- rowOf -/
theorem mh_17 : (moH B r d ro se st fu wr to he re we ai al) (r + 17) = some (.inl (0, 12, .inl (ai 17))) := by simp [moH]
/-- weights -/
theorem mh_18 : (moH B r d ro se st fu wr to he re we ai al) (r + 18) = some (.inl (1, 12, .inr (.inl (al 18)))) := by simp [moH]
/-- taken -/
theorem mh_19 : (moH B r d ro se st fu wr to he re we ai al) (r + 19) = some (.inl (2, 12, .inl (ai 19))) := by simp [moH]
theorem mh_out {q : Nat} (h : q < r ∨ r + 19 < q) : (moH B r d ro se st fu wr to he re we ai al) q = B q := by
  have h0 : ¬ q = r := by omega
  have h1 : ¬ q = r + 1 := by omega
  have h2 : ¬ q = r + 2 := by omega
  have h3 : ¬ q = r + 3 := by omega
  have h4 : ¬ q = r + 4 := by omega
  have h5 : ¬ q = r + 5 := by omega
  have h6 : ¬ q = r + 6 := by omega
  have h7 : ¬ q = r + 7 := by omega
  have h8 : ¬ q = r + 8 := by omega
  have h9 : ¬ q = r + 9 := by omega
  have h10 : ¬ q = r + 10 := by omega
  have h11 : ¬ q = r + 11 := by omega
  have h12 : ¬ q = r + 12 := by omega
  have h13 : ¬ q = r + 13 := by omega
  have h14 : ¬ q = r + 14 := by omega
  have h15 : ¬ q = r + 15 := by omega
  have h16 : ¬ q = r + 16 := by omega
  have h17 : ¬ q = r + 17 := by omega
  have h18 : ¬ q = r + 18 := by omega
  have h19 : ¬ q = r + 19 := by omega
  simp [moH, h0, h1, h2, h3, h4, h5, h6, h7, h8, h9, h10, h11, h12, h13, h14, h15, h16, h17, h18, h19]
theorem mu_o {d2 ro2 se2 st2 fu2 wr2 to2 he2 re2 we2 : Int32} : ev_up (moH B r d ro se st fu wr to he re we ai al) r (moO r d2 ro2 se2 st2 fu2 wr2 to2 he2 re2 we2) = (moH B r d2 ro2 se2 st2 fu2 wr2 to2 he2 re2 we2 ai al) := by
  funext q
  by_cases h : q = r
  · simp [ev_up, moH, h]
  · simp [ev_up, moH, h]
theorem mu_1 {f : Nat → Int64} : ev_up (moH B r d ro se st fu wr to he re we ai al) (r + 1) (.inl (1, 12, .inr (.inl f))) = (moH B r d ro se st fu wr to he re we ai (va_up al 1 f)) := by
  funext q
  by_cases h : q = r + 1
  · subst h
    simp [ev_up, moH, va_up]
  · simp [ev_up, moH, va_up, h]
theorem mu_2 {f : Nat → Int32} : ev_up (moH B r d ro se st fu wr to he re we ai al) (r + 2) (.inl (0, 12, .inl f)) = (moH B r d ro se st fu wr to he re we (va_up ai 2 f) al) := by
  funext q
  by_cases h : q = r + 2
  · subst h
    simp [ev_up, moH, va_up]
  · simp [ev_up, moH, va_up, h]
theorem mu_3 {f : Nat → Int32} : ev_up (moH B r d ro se st fu wr to he re we ai al) (r + 3) (.inl (0, 12, .inl f)) = (moH B r d ro se st fu wr to he re we (va_up ai 3 f) al) := by
  funext q
  by_cases h : q = r + 3
  · subst h
    simp [ev_up, moH, va_up]
  · simp [ev_up, moH, va_up, h]
theorem mu_4 {f : Nat → Int64} : ev_up (moH B r d ro se st fu wr to he re we ai al) (r + 4) (.inl (1, 144, .inr (.inl f))) = (moH B r d ro se st fu wr to he re we ai (va_up al 4 f)) := by
  funext q
  by_cases h : q = r + 4
  · subst h
    simp [ev_up, moH, va_up]
  · simp [ev_up, moH, va_up, h]
theorem mu_5 {f : Nat → Int32} : ev_up (moH B r d ro se st fu wr to he re we ai al) (r + 5) (.inl (0, 80, .inl f)) = (moH B r d ro se st fu wr to he re we (va_up ai 5 f) al) := by
  funext q
  by_cases h : q = r + 5
  · subst h
    simp [ev_up, moH, va_up]
  · simp [ev_up, moH, va_up, h]
theorem mu_6 {f : Nat → Int32} : ev_up (moH B r d ro se st fu wr to he re we ai al) (r + 6) (.inl (0, 80, .inl f)) = (moH B r d ro se st fu wr to he re we (va_up ai 6 f) al) := by
  funext q
  by_cases h : q = r + 6
  · subst h
    simp [ev_up, moH, va_up]
  · simp [ev_up, moH, va_up, h]
theorem mu_7 {f : Nat → Int32} : ev_up (moH B r d ro se st fu wr to he re we ai al) (r + 7) (.inl (2, 80, .inl f)) = (moH B r d ro se st fu wr to he re we (va_up ai 7 f) al) := by
  funext q
  by_cases h : q = r + 7
  · subst h
    simp [ev_up, moH, va_up]
  · simp [ev_up, moH, va_up, h]
theorem mu_8 {f : Nat → Int32} : ev_up (moH B r d ro se st fu wr to he re we ai al) (r + 8) (.inl (0, 80, .inl f)) = (moH B r d ro se st fu wr to he re we (va_up ai 8 f) al) := by
  funext q
  by_cases h : q = r + 8
  · subst h
    simp [ev_up, moH, va_up]
  · simp [ev_up, moH, va_up, h]
theorem mu_9 {f : Nat → Int64} : ev_up (moH B r d ro se st fu wr to he re we ai al) (r + 9) (.inl (1, 960, .inr (.inl f))) = (moH B r d ro se st fu wr to he re we ai (va_up al 9 f)) := by
  funext q
  by_cases h : q = r + 9
  · subst h
    simp [ev_up, moH, va_up]
  · simp [ev_up, moH, va_up, h]
theorem mu_10 {f : Nat → Int32} : ev_up (moH B r d ro se st fu wr to he re we ai al) (r + 10) (.inl (0, 520, .inl f)) = (moH B r d ro se st fu wr to he re we (va_up ai 10 f) al) := by
  funext q
  by_cases h : q = r + 10
  · subst h
    simp [ev_up, moH, va_up]
  · simp [ev_up, moH, va_up, h]
theorem mu_11 {f : Nat → Int64} : ev_up (moH B r d ro se st fu wr to he re we ai al) (r + 11) (.inl (1, 520, .inr (.inl f))) = (moH B r d ro se st fu wr to he re we ai (va_up al 11 f)) := by
  funext q
  by_cases h : q = r + 11
  · subst h
    simp [ev_up, moH, va_up]
  · simp [ev_up, moH, va_up, h]
theorem mu_12 {f : Nat → Int32} : ev_up (moH B r d ro se st fu wr to he re we ai al) (r + 12) (.inl (2, 8, .inl f)) = (moH B r d ro se st fu wr to he re we (va_up ai 12 f) al) := by
  funext q
  by_cases h : q = r + 12
  · subst h
    simp [ev_up, moH, va_up]
  · simp [ev_up, moH, va_up, h]
theorem mu_13 {f : Nat → Int32} : ev_up (moH B r d ro se st fu wr to he re we ai al) (r + 13) (.inl (0, 8, .inl f)) = (moH B r d ro se st fu wr to he re we (va_up ai 13 f) al) := by
  funext q
  by_cases h : q = r + 13
  · subst h
    simp [ev_up, moH, va_up]
  · simp [ev_up, moH, va_up, h]
theorem mu_14 {f : Nat → Int32} : ev_up (moH B r d ro se st fu wr to he re we ai al) (r + 14) (.inl (2, 8, .inl f)) = (moH B r d ro se st fu wr to he re we (va_up ai 14 f) al) := by
  funext q
  by_cases h : q = r + 14
  · subst h
    simp [ev_up, moH, va_up]
  · simp [ev_up, moH, va_up, h]
theorem mu_15 {f : Nat → Int32} : ev_up (moH B r d ro se st fu wr to he re we ai al) (r + 15) (.inl (0, 12, .inl f)) = (moH B r d ro se st fu wr to he re we (va_up ai 15 f) al) := by
  funext q
  by_cases h : q = r + 15
  · subst h
    simp [ev_up, moH, va_up]
  · simp [ev_up, moH, va_up, h]
theorem mu_16 {f : Nat → Int64} : ev_up (moH B r d ro se st fu wr to he re we ai al) (r + 16) (.inl (1, 12, .inr (.inl f))) = (moH B r d ro se st fu wr to he re we ai (va_up al 16 f)) := by
  funext q
  by_cases h : q = r + 16
  · subst h
    simp [ev_up, moH, va_up]
  · simp [ev_up, moH, va_up, h]
theorem mu_17 {f : Nat → Int32} : ev_up (moH B r d ro se st fu wr to he re we ai al) (r + 17) (.inl (0, 12, .inl f)) = (moH B r d ro se st fu wr to he re we (va_up ai 17 f) al) := by
  funext q
  by_cases h : q = r + 17
  · subst h
    simp [ev_up, moH, va_up]
  · simp [ev_up, moH, va_up, h]
theorem mu_18 {f : Nat → Int64} : ev_up (moH B r d ro se st fu wr to he re we ai al) (r + 18) (.inl (1, 12, .inr (.inl f))) = (moH B r d ro se st fu wr to he re we ai (va_up al 18 f)) := by
  funext q
  by_cases h : q = r + 18
  · subst h
    simp [ev_up, moH, va_up]
  · simp [ev_up, moH, va_up, h]
theorem mu_19 {f : Nat → Int32} : ev_up (moH B r d ro se st fu wr to he re we ai al) (r + 19) (.inl (2, 12, .inl f)) = (moH B r d ro se st fu wr to he re we (va_up ai 19 f) al) := by
  funext q
  by_cases h : q = r + 19
  · subst h
    simp [ev_up, moH, va_up]
  · simp [ev_up, moH, va_up, h]
theorem ev_uu {F : ev_H} {a : Nat} {c c2 : ev_C} : ev_up (ev_up F a c) a c2 = ev_up F a c2 := by
  funext q
  by_cases h : q = a <;> simp [ev_up, h]
end MoH
