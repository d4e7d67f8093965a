/-! the law: one turn, all turns -/
section LAW
variable {l : Launch} {X : ev_X} {p r c k : Nat} {Z : ev_Z} {i3 : Int32}
theorem BI_p {n : Nat} {F : ev_H} (H : BI X p r c n F) : ∃ dw, F p = some (psO p dw) := by
  obtain ⟨ow, gs, dr, pd, pm, sg, lv, w, b, st, ss, h, dp, wc, rs, ai, al, rl, tk, hI, hF, hL, hR⟩ := H
  exact ⟨_, hI.1⟩
theorem BI_1 {n : Nat} {F : ev_H} (H : BI X p r c n F) : BI X p r (c + 1) n F := by
  obtain ⟨ow, gs, dr, pd, pm, sg, lv, w, b, st, ss, h, dp, wc, rs, ai, al, rl, tk, hI, hF, hL, hR⟩ := H
  exact ⟨ow, gs, dr, pd, pm, sg, lv, w, b, st, ss, h, dp, wc, rs, ai, al, rl, tk, hI, hF, hL, RR_1 hR⟩
theorem t_stem (T : ∀ n F, BI X p r (c + 1) n F → Ev l X M_Lw (30 * k) (1000 * k) 558 [(0, .ref (X.2.2.2.1 0)), (1, .ref p), (2, .ref r), (3, .int i3)] [] n F Z) (v1 : vp_in (i3 + 1) X.2.2.2.2.1) (v2 : vp_in (i3 + 2) X.2.2.2.2.1) {Q : Option Value → Nat → ev_H → Prop} (K : ∀ v n1 F1, Q v n1 F1 → ∃ a : Int64, v = some (.long a) ∧ moK F1 r ∧ Cal l X M_Mo_stem 0 0 [.ref r, .long ((((X.2.2.2.2.2 (i3 + 1).toNatClampNeg).toInt64) <<< ((32 : Int32).toInt64 &&& 63)) ||| (((X.2.2.2.2.2 (i3 + 2).toNatClampNeg).toInt64) &&& 4294967295))] n1 F1 (fun v2 n2 F2 => v2 = some (.long a) ∧ BI X p r (c + 1) n2 F2)) : ∀ v2 n2 F2, Q v2 n2 F2 → Ev l X M_Lw (30 * k) (1000 * k) 140 [(0, .ref (X.2.2.2.1 0)), (1, .ref p), (2, .ref r), (3, .int i3)] (v2.toList ++ []) n2 F2 Z := by
  intro v n1 F1 hq
  obtain ⟨a, rfl, ⟨d, ro, se, st, fu, wr, to, he, re, we, hm⟩, hM⟩ := K v n1 F1 hq
  refine s_La_law_140 (rc161 := 30 * k) (rs161 := 1000 * k) (bc161 := 0) (bs161 := 0) hm (by omega) (by omega) v1 v2 hM ?_
  rintro _ n2 F2 ⟨rfl, H'⟩
  exact s_La_law_164 (fun _ => T n2 F2 H') (fun q => absurd (by unfold lg_cmp; simp) q)
theorem t_feed (T : ∀ n F, BI X p r (c + 1) n F → Ev l X M_Lw (30 * k) (1000 * k) 558 [(0, .ref (X.2.2.2.1 0)), (1, .ref p), (2, .ref r), (3, .int i3)] [] n F Z) (v1 : vp_in (i3 + 1) X.2.2.2.2.1) (v2 : vp_in (i3 + 2) X.2.2.2.2.1) {Q : Option Value → Nat → ev_H → Prop} (K : ∀ v n1 F1, Q v n1 F1 → ∃ a : Int32, v = some (.int a) ∧ moK F1 r ∧ Cal l X M_Mo_feed 0 0 [.ref r, .long ((((X.2.2.2.2.2 (i3 + 1).toNatClampNeg).toInt64) <<< ((32 : Int32).toInt64 &&& 63)) ||| (((X.2.2.2.2.2 (i3 + 2).toNatClampNeg).toInt64) &&& 4294967295))] n1 F1 (fun v2 n2 F2 => v2 = some (.int a) ∧ BI X p r (c + 1) n2 F2)) : ∀ v2 n2 F2, Q v2 n2 F2 → Ev l X M_Lw (30 * k) (1000 * k) 194 [(0, .ref (X.2.2.2.1 0)), (1, .ref p), (2, .ref r), (3, .int i3)] (v2.toList ++ []) n2 F2 Z := by
  intro v n1 F1 hq
  obtain ⟨a, rfl, ⟨d, ro, se, st, fu, wr, to, he, re, we, hm⟩, hM⟩ := K v n1 F1 hq
  refine s_La_law_194 (rc215 := 30 * k) (rs215 := 1000 * k) (bc215 := 0) (bs215 := 0) hm (by omega) (by omega) v1 v2 hM ?_
  rintro _ n2 F2 ⟨rfl, H'⟩
  exact s_La_law_218 (fun _ => T n2 F2 H') (fun q => absurd rfl q)
theorem t_add (T : ∀ n F, BI X p r (c + 1) n F → Ev l X M_Lw (30 * k) (1000 * k) 558 [(0, .ref (X.2.2.2.1 0)), (1, .ref p), (2, .ref r), (3, .int i3)] [] n F Z) (v1 : vp_in (i3 + 1) X.2.2.2.2.1) {Q : Option Value → Nat → ev_H → Prop} (K : ∀ v n1 F1, Q v n1 F1 → ∃ a : Int32, v = some (.int a) ∧ moK F1 r ∧ Cal l X M_Mo_add 0 0 [.ref r, (.int (X.2.2.2.2.2 (i3 + 1).toNatClampNeg))] n1 F1 (fun v2 n2 F2 => v2 = some (.int a) ∧ BI X p r (c + 1) n2 F2)) : ∀ v2 n2 F2, Q v2 n2 F2 → Ev l X M_Lw (30 * k) (1000 * k) 232 [(0, .ref (X.2.2.2.1 0)), (1, .ref p), (2, .ref r), (3, .int i3)] (v2.toList ++ []) n2 F2 Z := by
  intro v n1 F1 hq
  obtain ⟨a, rfl, ⟨d, ro, se, st, fu, wr, to, he, re, we, hm⟩, hM⟩ := K v n1 F1 hq
  refine s_La_law_232 (rc238 := 30 * k) (rs238 := 1000 * k) (bc238 := 0) (bs238 := 0) hm (by omega) (by omega) v1 hM ?_
  rintro _ n2 F2 ⟨rfl, H'⟩
  exact s_La_law_241 (fun _ => T n2 F2 H') (fun q => absurd rfl q)
theorem t_delete (T : ∀ n F, BI X p r (c + 1) n F → Ev l X M_Lw (30 * k) (1000 * k) 558 [(0, .ref (X.2.2.2.1 0)), (1, .ref p), (2, .ref r), (3, .int i3)] [] n F Z) (v1 : vp_in (i3 + 1) X.2.2.2.2.1) {Q : Option Value → Nat → ev_H → Prop} (K : ∀ v n1 F1, Q v n1 F1 → ∃ a : Int32, v = some (.int a) ∧ moK F1 r ∧ Cal l X M_Mo_delete 0 0 [.ref r, (.int (X.2.2.2.2.2 (i3 + 1).toNatClampNeg))] n1 F1 (fun v2 n2 F2 => v2 = some (.int a) ∧ BI X p r (c + 1) n2 F2)) : ∀ v2 n2 F2, Q v2 n2 F2 → Ev l X M_Lw (30 * k) (1000 * k) 255 [(0, .ref (X.2.2.2.1 0)), (1, .ref p), (2, .ref r), (3, .int i3)] (v2.toList ++ []) n2 F2 Z := by
  intro v n1 F1 hq
  obtain ⟨a, rfl, ⟨d, ro, se, st, fu, wr, to, he, re, we, hm⟩, hM⟩ := K v n1 F1 hq
  refine s_La_law_255 (rc261 := 30 * k) (rs261 := 1000 * k) (bc261 := 0) (bs261 := 0) hm (by omega) (by omega) v1 hM ?_
  rintro _ n2 F2 ⟨rfl, H'⟩
  exact s_La_law_264 (fun _ => T n2 F2 H') (fun q => absurd rfl q)
theorem t_commit (T : ∀ n F, BI X p r (c + 1) n F → Ev l X M_Lw (30 * k) (1000 * k) 558 [(0, .ref (X.2.2.2.1 0)), (1, .ref p), (2, .ref r), (3, .int i3)] [] n F Z) {Q : Option Value → Nat → ev_H → Prop} (K : ∀ v n1 F1, Q v n1 F1 → ∃ a : Int32, v = some (.int a) ∧ moK F1 r ∧ Cal l X M_Mo_commit 0 0 [.ref r] n1 F1 (fun v2 n2 F2 => v2 = some (.int a) ∧ BI X p r (c + 1) n2 F2)) : ∀ v2 n2 F2, Q v2 n2 F2 → Ev l X M_Lw (30 * k) (1000 * k) 273 [(0, .ref (X.2.2.2.1 0)), (1, .ref p), (2, .ref r), (3, .int i3)] (v2.toList ++ []) n2 F2 Z := by
  intro v n1 F1 hq
  obtain ⟨a, rfl, ⟨d, ro, se, st, fu, wr, to, he, re, we, hm⟩, hM⟩ := K v n1 F1 hq
  refine s_La_law_273 (rc274 := 30 * k) (rs274 := 1000 * k) (bc274 := 0) (bs274 := 0) hm (by omega) (by omega) hM ?_
  rintro _ n2 F2 ⟨rfl, H'⟩
  exact s_La_law_277 (fun _ => T n2 F2 H') (fun q => absurd rfl q)
theorem t_merge (T : ∀ n F, BI X p r (c + 1) n F → Ev l X M_Lw (30 * k) (1000 * k) 558 [(0, .ref (X.2.2.2.1 0)), (1, .ref p), (2, .ref r), (3, .int i3)] [] n F Z) (v1 : vp_in (i3 + 1) X.2.2.2.2.1) {Q : Option Value → Nat → ev_H → Prop} (K : ∀ v n1 F1, Q v n1 F1 → ∃ a : Int32, v = some (.int a) ∧ moK F1 r ∧ Cal l X M_Mo_merge 0 0 [.ref r, (.int (X.2.2.2.2.2 (i3 + 1).toNatClampNeg))] n1 F1 (fun v2 n2 F2 => v2 = some (.int a) ∧ BI X p r (c + 1) n2 F2)) : ∀ v2 n2 F2, Q v2 n2 F2 → Ev l X M_Lw (30 * k) (1000 * k) 291 [(0, .ref (X.2.2.2.1 0)), (1, .ref p), (2, .ref r), (3, .int i3)] (v2.toList ++ []) n2 F2 Z := by
  intro v n1 F1 hq
  obtain ⟨a, rfl, ⟨d, ro, se, st, fu, wr, to, he, re, we, hm⟩, hM⟩ := K v n1 F1 hq
  refine s_La_law_291 (rc297 := 30 * k) (rs297 := 1000 * k) (bc297 := 0) (bs297 := 0) hm (by omega) (by omega) v1 hM ?_
  rintro _ n2 F2 ⟨rfl, H'⟩
  exact s_La_law_300 (fun _ => T n2 F2 H') (fun q => absurd rfl q)
theorem t_fuse (T : ∀ n F, BI X p r (c + 1) n F → Ev l X M_Lw (30 * k) (1000 * k) 558 [(0, .ref (X.2.2.2.1 0)), (1, .ref p), (2, .ref r), (3, .int i3)] [] n F Z) (v1 : vp_in (i3 + 1) X.2.2.2.2.1) {Q : Option Value → Nat → ev_H → Prop} (K : ∀ v n1 F1, Q v n1 F1 → ∃ a : Int32, v = some (.int a) ∧ moK F1 r ∧ Cal l X M_Mo_fuse 0 0 [.ref r, (.int (X.2.2.2.2.2 (i3 + 1).toNatClampNeg))] n1 F1 (fun v2 n2 F2 => v2 = some (.int a) ∧ BI X p r (c + 1) n2 F2)) : ∀ v2 n2 F2, Q v2 n2 F2 → Ev l X M_Lw (30 * k) (1000 * k) 314 [(0, .ref (X.2.2.2.1 0)), (1, .ref p), (2, .ref r), (3, .int i3)] (v2.toList ++ []) n2 F2 Z := by
  intro v n1 F1 hq
  obtain ⟨a, rfl, ⟨d, ro, se, st, fu, wr, to, he, re, we, hm⟩, hM⟩ := K v n1 F1 hq
  refine s_La_law_314 (rc320 := 30 * k) (rs320 := 1000 * k) (bc320 := 0) (bs320 := 0) hm (by omega) (by omega) v1 hM ?_
  rintro _ n2 F2 ⟨rfl, H'⟩
  exact s_La_law_323 (fun _ => T n2 F2 H') (fun q => absurd rfl q)
theorem t_restart (T : ∀ n F, BI X p r (c + 1) n F → Ev l X M_Lw (30 * k) (1000 * k) 558 [(0, .ref (X.2.2.2.1 0)), (1, .ref p), (2, .ref r), (3, .int i3)] [] n F Z) {Q : Option Value → Nat → ev_H → Prop} (K : ∀ v n1 F1, Q v n1 F1 → ∃ a : Int32, v = some (.int a) ∧ moK F1 r ∧ Cal l X M_Mo_restart 0 0 [.ref r] n1 F1 (fun v2 n2 F2 => v2 = some (.int a) ∧ BI X p r (c + 1) n2 F2)) : ∀ v2 n2 F2, Q v2 n2 F2 → Ev l X M_Lw (30 * k) (1000 * k) 332 [(0, .ref (X.2.2.2.1 0)), (1, .ref p), (2, .ref r), (3, .int i3)] (v2.toList ++ []) n2 F2 Z := by
  intro v n1 F1 hq
  obtain ⟨a, rfl, ⟨d, ro, se, st, fu, wr, to, he, re, we, hm⟩, hM⟩ := K v n1 F1 hq
  refine s_La_law_332 (rc333 := 30 * k) (rs333 := 1000 * k) (bc333 := 0) (bs333 := 0) hm (by omega) (by omega) hM ?_
  rintro _ n2 F2 ⟨rfl, H'⟩
  exact s_La_law_336 (fun _ => T n2 F2 H') (fun q => absurd rfl q)
theorem t_term (T : ∀ n F, BI X p r (c + 1) n F → Ev l X M_Lw (30 * k) (1000 * k) 558 [(0, .ref (X.2.2.2.1 0)), (1, .ref p), (2, .ref r), (3, .int i3)] [] n F Z) (v1 : vp_in (i3 + 1) X.2.2.2.2.1) (v2 : vp_in (i3 + 2) X.2.2.2.2.1) {Q : Option Value → Nat → ev_H → Prop} (K : ∀ v n1 F1, Q v n1 F1 → ∃ a : Int32, v = some (.int a) ∧ moK F1 r ∧ Cal l X M_Mo_term 0 0 [.ref r, .long ((((X.2.2.2.2.2 (i3 + 1).toNatClampNeg).toInt64) <<< ((32 : Int32).toInt64 &&& 63)) ||| (((X.2.2.2.2.2 (i3 + 2).toNatClampNeg).toInt64) &&& 4294967295))] n1 F1 (fun v2 n2 F2 => v2 = some (.int a) ∧ BI X p r (c + 1) n2 F2)) : ∀ v2 n2 F2, Q v2 n2 F2 → Ev l X M_Lw (30 * k) (1000 * k) 365 [(0, .ref (X.2.2.2.1 0)), (1, .ref p), (2, .ref r), (3, .int i3)] (v2.toList ++ []) n2 F2 Z := by
  intro v n1 F1 hq
  obtain ⟨a, rfl, ⟨d, ro, se, st, fu, wr, to, he, re, we, hm⟩, hM⟩ := K v n1 F1 hq
  refine s_La_law_365 (rc386 := 30 * k) (rs386 := 1000 * k) (bc386 := 0) (bs386 := 0) hm (by omega) (by omega) v1 v2 hM ?_
  rintro _ n2 F2 ⟨rfl, H'⟩
  exact s_La_law_389 (fun _ => T n2 F2 H') (fun q => absurd rfl q)
theorem t_phrase (T : ∀ n F, BI X p r (c + 1) n F → Ev l X M_Lw (30 * k) (1000 * k) 558 [(0, .ref (X.2.2.2.1 0)), (1, .ref p), (2, .ref r), (3, .int i3)] [] n F Z) (v1 : vp_in (i3 + 1) X.2.2.2.2.1) {Q : Option Value → Nat → ev_H → Prop} (K : ∀ v n1 F1, Q v n1 F1 → ∃ a : Int32, v = some (.int a) ∧ moK F1 r ∧ Cal l X M_Mo_phrase 0 0 [.ref r, (.int (X.2.2.2.2.2 (i3 + 1).toNatClampNeg))] n1 F1 (fun v2 n2 F2 => v2 = some (.int a) ∧ BI X p r (c + 1) n2 F2)) : ∀ v2 n2 F2, Q v2 n2 F2 → Ev l X M_Lw (30 * k) (1000 * k) 403 [(0, .ref (X.2.2.2.1 0)), (1, .ref p), (2, .ref r), (3, .int i3)] (v2.toList ++ []) n2 F2 Z := by
  intro v n1 F1 hq
  obtain ⟨a, rfl, ⟨d, ro, se, st, fu, wr, to, he, re, we, hm⟩, hM⟩ := K v n1 F1 hq
  refine s_La_law_403 (rc409 := 30 * k) (rs409 := 1000 * k) (bc409 := 0) (bs409 := 0) hm (by omega) (by omega) v1 hM ?_
  rintro _ n2 F2 ⟨rfl, H'⟩
  exact s_La_law_412 (fun _ => T n2 F2 H') (fun q => absurd rfl q)
theorem t_join (T : ∀ n F, BI X p r (c + 1) n F → Ev l X M_Lw (30 * k) (1000 * k) 558 [(0, .ref (X.2.2.2.1 0)), (1, .ref p), (2, .ref r), (3, .int i3)] [] n F Z) (v1 : vp_in (i3 + 1) X.2.2.2.2.1) {Q : Option Value → Nat → ev_H → Prop} (K : ∀ v n1 F1, Q v n1 F1 → ∃ a : Int32, v = some (.int a) ∧ moK F1 r ∧ Cal l X M_Mo_join 0 0 [.ref r, (.int (X.2.2.2.2.2 (i3 + 1).toNatClampNeg))] n1 F1 (fun v2 n2 F2 => v2 = some (.int a) ∧ BI X p r (c + 1) n2 F2)) : ∀ v2 n2 F2, Q v2 n2 F2 → Ev l X M_Lw (30 * k) (1000 * k) 426 [(0, .ref (X.2.2.2.1 0)), (1, .ref p), (2, .ref r), (3, .int i3)] (v2.toList ++ []) n2 F2 Z := by
  intro v n1 F1 hq
  obtain ⟨a, rfl, ⟨d, ro, se, st, fu, wr, to, he, re, we, hm⟩, hM⟩ := K v n1 F1 hq
  refine s_La_law_426 (rc432 := 30 * k) (rs432 := 1000 * k) (bc432 := 0) (bs432 := 0) hm (by omega) (by omega) v1 hM ?_
  rintro _ n2 F2 ⟨rfl, H'⟩
  exact s_La_law_435 (fun _ => T n2 F2 H') (fun q => absurd rfl q)
theorem t_find (T : ∀ n F, BI X p r (c + 1) n F → Ev l X M_Lw (30 * k) (1000 * k) 558 [(0, .ref (X.2.2.2.1 0)), (1, .ref p), (2, .ref r), (3, .int i3)] [] n F Z) {Q : Option Value → Nat → ev_H → Prop} (K : ∀ v n1 F1, Q v n1 F1 → ∃ a : Int32, v = some (.int a) ∧ moK F1 r ∧ Cal l X M_Mo_find 0 0 [.ref r] n1 F1 (fun v2 n2 F2 => v2 = some (.int a) ∧ BI X p r (c + 1) n2 F2)) : ∀ v2 n2 F2, Q v2 n2 F2 → Ev l X M_Lw (30 * k) (1000 * k) 444 [(0, .ref (X.2.2.2.1 0)), (1, .ref p), (2, .ref r), (3, .int i3)] (v2.toList ++ []) n2 F2 Z := by
  intro v n1 F1 hq
  obtain ⟨a, rfl, ⟨d, ro, se, st, fu, wr, to, he, re, we, hm⟩, hM⟩ := K v n1 F1 hq
  refine s_La_law_444 (rc445 := 30 * k) (rs445 := 1000 * k) (bc445 := 0) (bs445 := 0) hm (by omega) (by omega) hM ?_
  rintro _ n2 F2 ⟨rfl, H'⟩
  exact s_La_law_448 (fun _ => T n2 F2 H') (fun q => absurd rfl q)
theorem t_rank (T : ∀ n F, BI X p r (c + 1) n F → Ev l X M_Lw (30 * k) (1000 * k) 558 [(0, .ref (X.2.2.2.1 0)), (1, .ref p), (2, .ref r), (3, .int i3)] [] n F Z) (v1 : vp_in (i3 + 1) X.2.2.2.2.1) {Q : Option Value → Nat → ev_H → Prop} (K : ∀ v n1 F1, Q v n1 F1 → ∃ a : Int32, v = some (.int a) ∧ moK F1 r ∧ Cal l X M_Mo_rank 0 0 [.ref r, (.int (X.2.2.2.2.2 (i3 + 1).toNatClampNeg))] n1 F1 (fun v2 n2 F2 => v2 = some (.int a) ∧ BI X p r (c + 1) n2 F2)) : ∀ v2 n2 F2, Q v2 n2 F2 → Ev l X M_Lw (30 * k) (1000 * k) 462 [(0, .ref (X.2.2.2.1 0)), (1, .ref p), (2, .ref r), (3, .int i3)] (v2.toList ++ []) n2 F2 Z := by
  intro v n1 F1 hq
  obtain ⟨a, rfl, ⟨d, ro, se, st, fu, wr, to, he, re, we, hm⟩, hM⟩ := K v n1 F1 hq
  refine s_La_law_462 (rc468 := 30 * k) (rs468 := 1000 * k) (bc468 := 0) (bs468 := 0) hm (by omega) (by omega) v1 hM ?_
  rintro _ n2 F2 ⟨rfl, H'⟩
  exact s_La_law_471 (fun _ => T n2 F2 H') (fun q => absurd rfl q)
theorem t_result (T : ∀ n F, BI X p r (c + 1) n F → Ev l X M_Lw (30 * k) (1000 * k) 558 [(0, .ref (X.2.2.2.1 0)), (1, .ref p), (2, .ref r), (3, .int i3)] [] n F Z) (v1 : vp_in (i3 + 1) X.2.2.2.2.1) {Q : Option Value → Nat → ev_H → Prop} (K : ∀ v n1 F1, Q v n1 F1 → ∃ a : Int32, v = some (.int a) ∧ moK F1 r ∧ Cal l X M_Mo_result 0 0 [.ref r, (.int (X.2.2.2.2.2 (i3 + 1).toNatClampNeg))] n1 F1 (fun v2 n2 F2 => v2 = some (.int a) ∧ BI X p r (c + 1) n2 F2)) : ∀ v2 n2 F2, Q v2 n2 F2 → Ev l X M_Lw (30 * k) (1000 * k) 485 [(0, .ref (X.2.2.2.1 0)), (1, .ref p), (2, .ref r), (3, .int i3)] (v2.toList ++ []) n2 F2 Z := by
  intro v n1 F1 hq
  obtain ⟨a, rfl, ⟨d, ro, se, st, fu, wr, to, he, re, we, hm⟩, hM⟩ := K v n1 F1 hq
  refine s_La_law_485 (rc491 := 30 * k) (rs491 := 1000 * k) (bc491 := 0) (bs491 := 0) hm (by omega) (by omega) v1 hM ?_
  rintro _ n2 F2 ⟨rfl, H'⟩
  exact s_La_law_494 (fun _ => T n2 F2 H') (fun q => absurd rfl q)
theorem t_weight (T : ∀ n F, BI X p r (c + 1) n F → Ev l X M_Lw (30 * k) (1000 * k) 558 [(0, .ref (X.2.2.2.1 0)), (1, .ref p), (2, .ref r), (3, .int i3)] [] n F Z) (v1 : vp_in (i3 + 1) X.2.2.2.2.1) {Q : Option Value → Nat → ev_H → Prop} (K : ∀ v n1 F1, Q v n1 F1 → ∃ a : Int32, v = some (.int a) ∧ moK F1 r ∧ Cal l X M_Mo_weight 0 0 [.ref r, (.int (X.2.2.2.2.2 (i3 + 1).toNatClampNeg))] n1 F1 (fun v2 n2 F2 => v2 = some (.int a) ∧ BI X p r (c + 1) n2 F2)) : ∀ v2 n2 F2, Q v2 n2 F2 → Ev l X M_Lw (30 * k) (1000 * k) 508 [(0, .ref (X.2.2.2.1 0)), (1, .ref p), (2, .ref r), (3, .int i3)] (v2.toList ++ []) n2 F2 Z := by
  intro v n1 F1 hq
  obtain ⟨a, rfl, ⟨d, ro, se, st, fu, wr, to, he, re, we, hm⟩, hM⟩ := K v n1 F1 hq
  refine s_La_law_508 (rc514 := 30 * k) (rs514 := 1000 * k) (bc514 := 0) (bs514 := 0) hm (by omega) (by omega) v1 hM ?_
  rintro _ n2 F2 ⟨rfl, H'⟩
  exact s_La_law_517 (fun _ => T n2 F2 H') (fun q => absurd rfl q)
theorem t_weighed (T : ∀ n F, BI X p r (c + 1) n F → Ev l X M_Lw (30 * k) (1000 * k) 558 [(0, .ref (X.2.2.2.1 0)), (1, .ref p), (2, .ref r), (3, .int i3)] [] n F Z) {Q : Option Value → Nat → ev_H → Prop} (K : ∀ v n1 F1, Q v n1 F1 → ∃ a : Int32, v = some (.int a) ∧ moK F1 r ∧ Cal l X M_Mo_weighed 0 0 [.ref r] n1 F1 (fun v2 n2 F2 => v2 = some (.int a) ∧ BI X p r (c + 1) n2 F2)) : ∀ v2 n2 F2, Q v2 n2 F2 → Ev l X M_Lw (30 * k) (1000 * k) 526 [(0, .ref (X.2.2.2.1 0)), (1, .ref p), (2, .ref r), (3, .int i3)] (v2.toList ++ []) n2 F2 Z := by
  intro v n1 F1 hq
  obtain ⟨a, rfl, ⟨d, ro, se, st, fu, wr, to, he, re, we, hm⟩, hM⟩ := K v n1 F1 hq
  refine s_La_law_526 (rc527 := 30 * k) (rs527 := 1000 * k) (bc527 := 0) (bs527 := 0) hm (by omega) (by omega) hM ?_
  rintro _ n2 F2 ⟨rfl, H'⟩
  exact s_La_law_530 (fun _ => T n2 F2 H') (fun q => absurd rfl q)
theorem t_size (T : ∀ n F, BI X p r (c + 1) n F → Ev l X M_Lw (30 * k) (1000 * k) 558 [(0, .ref (X.2.2.2.1 0)), (1, .ref p), (2, .ref r), (3, .int i3)] [] n F Z) (v1 : vp_in (i3 + 1) X.2.2.2.2.1) {Q : Option Value → Nat → ev_H → Prop} (K : ∀ v n1 F1, Q v n1 F1 → ∃ a : Int32, v = some (.int a) ∧ moK F1 r ∧ Cal l X M_Mo_size 0 0 [.ref r, (.int (X.2.2.2.2.2 (i3 + 1).toNatClampNeg))] n1 F1 (fun v2 n2 F2 => v2 = some (.int a) ∧ BI X p r (c + 1) n2 F2)) : ∀ v2 n2 F2, Q v2 n2 F2 → Ev l X M_Lw (30 * k) (1000 * k) 544 [(0, .ref (X.2.2.2.1 0)), (1, .ref p), (2, .ref r), (3, .int i3)] (v2.toList ++ []) n2 F2 Z := by
  intro v n1 F1 hq
  obtain ⟨a, rfl, ⟨d, ro, se, st, fu, wr, to, he, re, we, hm⟩, hM⟩ := K v n1 F1 hq
  refine s_La_law_544 (rc550 := 30 * k) (rs550 := 1000 * k) (bc550 := 0) (bs550 := 0) hm (by omega) (by omega) v1 hM ?_
  rintro _ n2 F2 ⟨rfl, H'⟩
  exact s_La_law_553 (fun _ => T n2 F2 H') (fun q => absurd rfl q)
theorem sw_17 : ∀ j, j < 32 → ¬ nI j = 0 → ¬ nI j = 1 → ¬ nI j = 2 → ¬ nI j = 3 → ¬ nI j = 4 → ¬ nI j = 5 → ¬ nI j = 6 → ¬ nI j = 7 → ¬ nI j = 8 → ¬ nI j = 9 → ¬ nI j = 10 → ¬ nI j = 11 → ¬ nI j = 12 → ¬ nI j = 13 → ¬ nI j = 14 → ¬ nI j = 15 → ¬ nI j = 16 → 16 < (nI j).toInt := by
  intro j hj h0 h1 h2 h3 h4 h5 h6 h7 h8 h9 h10 h11 h12 h13 h14 h15 h16
  rw [nI_toInt (by omega)]
  have g0 : j ≠ 0 := fun e => h0 (by rw [e]; rfl)
  have g1 : j ≠ 1 := fun e => h1 (by rw [e]; rfl)
  have g2 : j ≠ 2 := fun e => h2 (by rw [e]; rfl)
  have g3 : j ≠ 3 := fun e => h3 (by rw [e]; rfl)
  have g4 : j ≠ 4 := fun e => h4 (by rw [e]; rfl)
  have g5 : j ≠ 5 := fun e => h5 (by rw [e]; rfl)
  have g6 : j ≠ 6 := fun e => h6 (by rw [e]; rfl)
  have g7 : j ≠ 7 := fun e => h7 (by rw [e]; rfl)
  have g8 : j ≠ 8 := fun e => h8 (by rw [e]; rfl)
  have g9 : j ≠ 9 := fun e => h9 (by rw [e]; rfl)
  have g10 : j ≠ 10 := fun e => h10 (by rw [e]; rfl)
  have g11 : j ≠ 11 := fun e => h11 (by rw [e]; rfl)
  have g12 : j ≠ 12 := fun e => h12 (by rw [e]; rfl)
  have g13 : j ≠ 13 := fun e => h13 (by rw [e]; rfl)
  have g14 : j ≠ 14 := fun e => h14 (by rw [e]; rfl)
  have g15 : j ≠ 15 := fun e => h15 (by rw [e]; rfl)
  have g16 : j ≠ 16 := fun e => h16 (by rw [e]; rfl)
  omega
set_option maxRecDepth 100000 in
set_option maxHeartbeats 4000000 in
theorem t_all {n j : Nat} {F : ev_H} (hc : c < 512) (hj : j < 32) (H : BI X p r c n F) (T : ∀ n F, BI X p r (c + 1) n F → Ev l X M_Lw (30 * k) (1000 * k) 558 [(0, .ref (X.2.2.2.1 0)), (1, .ref p), (2, .ref r), (3, .int i3)] [] n F Z) (v1 : vp_in (i3 + 1) X.2.2.2.2.1) (v2 : vp_in (i3 + 2) X.2.2.2.2.1) : Ev l X M_Lw (30 * (k + 1)) (1000 * (k + 1)) 32 [(0, .ref (X.2.2.2.1 0)), (1, .ref p), (2, .ref r), (3, .int i3)] [.int (nI j)] n F Z := by
  obtain ⟨dw, hp⟩ := BI_p H
  obtain ⟨Q137, C137, K137⟩ := b_stem (l := l) (t := ((((X.2.2.2.2.2 (i3 + 1).toNatClampNeg).toInt64) <<< ((32 : Int32).toInt64 &&& 63)) ||| (((X.2.2.2.2.2 (i3 + 2).toNatClampNeg).toInt64) &&& 4294967295))) H
  obtain ⟨Q191, C191, K191⟩ := b_feed (l := l) (t := ((((X.2.2.2.2.2 (i3 + 1).toNatClampNeg).toInt64) <<< ((32 : Int32).toInt64 &&& 63)) ||| (((X.2.2.2.2.2 (i3 + 2).toNatClampNeg).toInt64) &&& 4294967295))) H
  obtain ⟨Q229, C229, K229⟩ := b_add (l := l) (i := X.2.2.2.2.2 (i3 + 1).toNatClampNeg) H
  obtain ⟨Q252, C252, K252⟩ := b_delete (l := l) (i := X.2.2.2.2.2 (i3 + 1).toNatClampNeg) H
  obtain ⟨Q270, C270, K270⟩ := b_commit (l := l) hc H
  obtain ⟨Q288, C288, K288⟩ := b_merge (l := l) (i := X.2.2.2.2.2 (i3 + 1).toNatClampNeg) hc H
  obtain ⟨Q311, C311, K311⟩ := b_fuse (l := l) (i := X.2.2.2.2.2 (i3 + 1).toNatClampNeg) H
  obtain ⟨Q329, C329, K329⟩ := b_restart (l := l) H
  obtain ⟨Q362, C362, K362⟩ := b_term (l := l) (t := ((((X.2.2.2.2.2 (i3 + 1).toNatClampNeg).toInt64) <<< ((32 : Int32).toInt64 &&& 63)) ||| (((X.2.2.2.2.2 (i3 + 2).toNatClampNeg).toInt64) &&& 4294967295))) hc H
  obtain ⟨Q400, C400, K400⟩ := b_phrase (l := l) (i := X.2.2.2.2.2 (i3 + 1).toNatClampNeg) hc H
  obtain ⟨Q423, C423, K423⟩ := b_join (l := l) (i := X.2.2.2.2.2 (i3 + 1).toNatClampNeg) hc H
  obtain ⟨Q441, C441, K441⟩ := b_find (l := l) H hc
  obtain ⟨Q459, C459, K459⟩ := b_rank (l := l) (i := X.2.2.2.2.2 (i3 + 1).toNatClampNeg) H
  obtain ⟨Q482, C482, K482⟩ := b_result (l := l) (i := X.2.2.2.2.2 (i3 + 1).toNatClampNeg) H
  obtain ⟨Q505, C505, K505⟩ := b_weight (l := l) (i := X.2.2.2.2.2 (i3 + 1).toNatClampNeg) H
  obtain ⟨Q523, C523, K523⟩ := b_weighed (l := l) H
  obtain ⟨Q541, C541, K541⟩ := b_size (l := l) (i := X.2.2.2.2.2 (i3 + 1).toNatClampNeg) H
  exact s_La_law_32 (rc137 := 30 * k) (rs137 := 1000 * k) (bc137 := 0) (bs137 := 0) (rc191 := 30 * k) (rs191 := 1000 * k) (bc191 := 0) (bs191 := 0) (rc229 := 30 * k) (rs229 := 1000 * k) (bc229 := 3) (bs229 := 800) (rc252 := 30 * k) (rs252 := 1000 * k) (bc252 := 0) (bs252 := 0) (rc270 := 30 * k) (rs270 := 1000 * k) (bc270 := 27) (bs270 := 505) (rc288 := 30 * k) (rs288 := 1000 * k) (bc288 := 26) (bs288 := 965) (rc311 := 30 * k) (rs311 := 1000 * k) (bc311 := 0) (bs311 := 0) (rc329 := 30 * k) (rs329 := 1000 * k) (bc329 := 0) (bs329 := 0) (rc362 := 30 * k) (rs362 := 1000 * k) (bc362 := 3) (bs362 := 783) (rc400 := 30 * k) (rs400 := 1000 * k) (bc400 := 3) (bs400 := 800) (rc423 := 30 * k) (rs423 := 1000 * k) (bc423 := 3) (bs423 := 783) (rc441 := 30 * k) (rs441 := 1000 * k) (bc441 := 0) (bs441 := 0) (rc459 := 30 * k) (rs459 := 1000 * k) (bc459 := 0) (bs459 := 0) (rc482 := 30 * k) (rs482 := 1000 * k) (bc482 := 0) (bs482 := 0) (rc505 := 30 * k) (rs505 := 1000 * k) (bc505 := 0) (bs505 := 0) (rc523 := 30 * k) (rs523 := 1000 * k) (bc523 := 0) (bs523 := 0) (rc541 := 30 * k) (rs541 := 1000 * k) (bc541 := 0) (bs541 := 0) hp (by omega) (by omega) (by omega) (by omega) (by omega) (by omega) (by omega) (by omega) (by omega) (by omega) (by omega) (by omega) (by omega) (by omega) (by omega) (by omega) (by omega) (by omega) (by omega) (by omega) (by omega) (by omega) (by omega) (by omega) (by omega) (by omega) (by omega) (by omega) (by omega) (by omega) (by omega) (by omega) (by omega) (by omega) (fun _ => v1) (fun _ => v2) (fun _ => C137) (fun _ => t_stem T v1 v2 K137) (fun _ _ => v1) (fun _ _ => v2) (fun _ _ => C191) (fun _ _ => t_feed T v1 v2 K191) (fun _ _ _ => v1) (fun _ _ _ => C229) (fun _ _ _ => t_add T v1 K229) (fun _ _ _ _ => v1) (fun _ _ _ _ => C252) (fun _ _ _ _ => t_delete T v1 K252) (fun _ _ _ _ _ => C270) (fun _ _ _ _ _ => t_commit T K270) (fun _ _ _ _ _ _ => v1) (fun _ _ _ _ _ _ => C288) (fun _ _ _ _ _ _ => t_merge T v1 K288) (fun _ _ _ _ _ _ _ => v1) (fun _ _ _ _ _ _ _ => C311) (fun _ _ _ _ _ _ _ => t_fuse T v1 K311) (fun _ _ _ _ _ _ _ _ => C329) (fun _ _ _ _ _ _ _ _ => t_restart T K329) (fun _ _ _ _ _ _ _ _ _ => v1) (fun _ _ _ _ _ _ _ _ _ => v2) (fun _ _ _ _ _ _ _ _ _ => C362) (fun _ _ _ _ _ _ _ _ _ => t_term T v1 v2 K362) (fun _ _ _ _ _ _ _ _ _ _ => v1) (fun _ _ _ _ _ _ _ _ _ _ => C400) (fun _ _ _ _ _ _ _ _ _ _ => t_phrase T v1 K400) (fun _ _ _ _ _ _ _ _ _ _ _ => v1) (fun _ _ _ _ _ _ _ _ _ _ _ => C423) (fun _ _ _ _ _ _ _ _ _ _ _ => t_join T v1 K423) (fun _ _ _ _ _ _ _ _ _ _ _ _ => C441) (fun _ _ _ _ _ _ _ _ _ _ _ _ => t_find T K441) (fun _ _ _ _ _ _ _ _ _ _ _ _ _ => v1) (fun _ _ _ _ _ _ _ _ _ _ _ _ _ => C459) (fun _ _ _ _ _ _ _ _ _ _ _ _ _ => t_rank T v1 K459) (fun _ _ _ _ _ _ _ _ _ _ _ _ _ _ => v1) (fun _ _ _ _ _ _ _ _ _ _ _ _ _ _ => C482) (fun _ _ _ _ _ _ _ _ _ _ _ _ _ _ => t_result T v1 K482) (fun _ _ _ _ _ _ _ _ _ _ _ _ _ _ _ => v1) (fun _ _ _ _ _ _ _ _ _ _ _ _ _ _ _ => C505) (fun _ _ _ _ _ _ _ _ _ _ _ _ _ _ _ => t_weight T v1 K505) (fun _ _ _ _ _ _ _ _ _ _ _ _ _ _ _ _ => C523) (fun _ _ _ _ _ _ _ _ _ _ _ _ _ _ _ _ => t_weighed T K523) (fun _ _ _ _ _ _ _ _ _ _ _ _ _ _ _ _ _ => v1) (fun _ _ _ _ _ _ _ _ _ _ _ _ _ _ _ _ _ => C541) (fun _ _ _ _ _ _ _ _ _ _ _ _ _ _ _ _ _ => t_size T v1 K541) (fun h0 h1 h2 h3 h4 h5 h6 h7 h8 h9 h10 h11 h12 h13 h14 h15 h16 => Or.inr (sw_17 j hj h0 h1 h2 h3 h4 h5 h6 h7 h8 h9 h10 h11 h12 h13 h14 h15 h16)) (fun _ _ _ _ _ _ _ _ _ _ _ _ _ _ _ _ _ => Ev.room (by omega) (by omega) (T n F (BI_1 H)))
theorem lw_loop (hL : X.2.2.2.2.1 ≤ 1536) (hZ : ∀ bc bs n F i, Ev l X M_Lw bc bs 564 [(0, .ref (X.2.2.2.1 0)), (1, .ref p), (2, .ref r), (3, .int i)] [] n F Z) : ∀ (k c n : Nat) (F : ev_H), c + k = 512 → BI X p r c n F → Ev l X M_Lw (30 * k) (1000 * k) 18 [(0, .ref (X.2.2.2.1 0)), (1, .ref p), (2, .ref r), (3, .int (nI (3 * c)))] [] n F Z := by
  intro k
  induction k with
  | zero =>
    intro c n F hck H
    have e1 : (nI X.2.2.2.2.1 - 3).toInt = (X.2.2.2.2.1 : Int) - 3 := pk_sub_toInt (b := 3) (by omega) (by omega)
    have g : nI X.2.2.2.2.1 - 3 < nI (3 * c) := by
      rw [Int32.lt_iff_toInt_lt, e1, nI_toInt (by omega)]
      omega
    exact s_La_law_18 (fun _ => hZ _ _ _ _ _) (fun q => absurd g q) (fun q => absurd g q)
  | succ k ih =>
    intro c n F hck H
    have e1 : (nI X.2.2.2.2.1 - 3).toInt = (X.2.2.2.2.1 : Int) - 3 := pk_sub_toInt (b := 3) (by omega) (by omega)
    refine s_La_law_18 (fun _ => hZ _ _ _ _ _) (fun g => ?_) (fun g => ?_)
    · rw [Int32.lt_iff_toInt_lt, e1, nI_toInt (by omega)] at g
      exact vp_in_nI (by omega) (by omega)
    · rw [Int32.lt_iff_toInt_lt, e1, nI_toInt (by omega)] at g
      have e2 : nI (3 * c) + 1 = nI (3 * c + 1) := nI_add (3 * c) 1
      have e3 : nI (3 * c) + 2 = nI (3 * c + 2) := nI_add (3 * c) 2
      have e4 : nI (3 * c) + 3 = nI (3 * (c + 1)) := nI_add (3 * c) 3
      obtain ⟨j, hj, hs⟩ := pk_andE (X.2.2.2.2.2 (nI (3 * c)).toNatClampNeg) (m := 31) 5 (by decide)
      rw [hs]
      exact t_all (by omega) hj H (fun n F H2 => s_La_law_558 (by rw [e4]; exact ih (c + 1) n F (by omega) H2)) (by rw [e2]; exact vp_in_nI (by omega) (by omega)) (by rw [e3]; exact vp_in_nI (by omega) (by omega))
end LAW
