/-! the stack of queries: a phrase is made -/
section Qs4
variable {l : Launch} {X : ev_X} {n : Nat} {F G : ev_H} {ow ow' : Nat → Nat} {q h : Nat} {ss : List QStep} {dp : Nat → Nat}
/-- the ghost of one cell that nothing speaks of is another one -/
theorem qs_ow {m : Nat} (hI : qsI X F ow q ss h dp) (h1 : ow m = 1) (hm : q + 2 < m) (w : ∀ x, x ≠ m → ow' x = ow x) : qsI X F ow' q ss h dp := by
  obtain ⟨a1, ⟨vs, ⟨e, mc, l1, l2⟩, g3, g4⟩, a3, a4, w0, w1, w2, w3⟩ := hI
  have z : ∀ x, ow x = 0 → ow' x = 0 := fun x hx => by rw [w x (fun e => by subst e; omega)]; exact hx
  refine ⟨a1, ⟨vs, ⟨e, mc, l1, ?_⟩, g3, fun i v x hv hx => ?_⟩, a3, a4, by rw [w _ (by omega)]; exact w0, by rw [w _ (by omega)]; exact w1, by rw [w _ (by omega)]; exact w2, w3⟩
  · rcases l2 with l2 | ⟨cap, f, k1, k2, k3⟩
    · exact Or.inl l2
    · exact Or.inr ⟨cap, f, k1, by rw [w e (fun z => by subst z; omega)]; exact k2, k3⟩
  · obtain ⟨t, f, d1, d2, d3, d4, d5, d6⟩ := g4 i v x hv hx
    exact ⟨t, f, d1, d2, d3, z v d4, z t d5, d6⟩
theorem pl_last {L : Nat} {vs : List Nat} {a : List QStep} {x : QStep} (h : lsI X F ow L vs) (hL : L ≠ 0) (hl : vs.length = (a ++ [x]).length) (hd : ∀ (i v : Nat) (y : QStep), vs[i]? = some v → (a ++ [x])[i]? = some y → spW F ow v y) (hG : lsI X G ow L (vs.eraseIdx a.length)) (hf : lsF ow L F G) : plI X G ow L a := by
  have hi : a.length < vs.length := by rw [hl]; simp
  refine ⟨_, hG, ?_, fun i v y hv hy => ?_⟩
  · rw [List.length_eraseIdx, if_pos hi, hl]
    simp
  · have hlt := (List.getElem?_eq_some_iff.mp hy).1
    rw [List.getElem?_eraseIdx, if_pos hlt] at hv
    exact (hd i v y hv (by rw [List.getElem?_append_left hlt]; exact hy)).k (lsF_fr hf) (ls_W10 h hL) (fun _ _ _ => rfl)
theorem c_Qs_makePhrase {p : Nat} {s0 : List QStep} {row : List Int64} (hI : qsI X F ow q (s0 ++ row.map (fun t => ((3, [t]) : QStep))) h dp) (hr : row.length = p) (h1p : 1 ≤ p) (hp : p ≤ h) (hlen : (s0 ++ row.map (fun t => ((3, [t]) : QStep))).length < 520) : Cal l X M_Qs_makePhrase 3 800 [.ref q, .int (nI p)] n F (qsQ X n F ow q (s0 ++ [(3, row)]) (h - p + 1) (va_up dp (h - p) 1) (some (.int (nI (h - p + 1))))) := by
  refine Cal.of (by decide) (Nat.le_of_ble_eq_true rfl) (ev_fresh fun fr0 => ?_)
  have n0 : F n = none := fr0 n (Nat.le_refl n)
  have h8 : h ≤ 8 := hI.2.2.2.1
  have hq1 : 1 < q := hI.2.2.2.2.2.2.2
  have hqn : q + 2 < n := by
    obtain ⟨f, k1, -⟩ := hI.2.2.1
    exact kn fr0 k1
  have key : ∀ (j : Nat) (G : ev_H) (f : Nat → Int64), j ≤ p → qsI X G (nwO n ow) q (s0 ++ (row.take j).map (fun t => ((3, [t]) : QStep))) h dp → G n = some (.inl (1, p, .inr (.inl f))) → (∀ i, j ≤ i → i < p → f i = tg row i) → fr (qsW ow q) F G → Ev l X M_Qs_makePhrase 2 792 8 [(0, .ref q), (1, .int (nI p)), (2, .ref n), (3, .int (nI j - 1))] [] (n + 1) G (ev_mq X (qsQ X n F ow q (s0 ++ [(3, row)]) (h - p + 1) (va_up dp (h - p) 1) (some (.int (nI (h - p + 1)))))) := by
    intro j
    induction j with
    | zero =>
      intro G f hj hG hn hf hF
      obtain ⟨e, mc, c1⟩ := pl_cell hG.2.1
      refine ev_fresh fun hfr => ?_
      have n1 : G (n + 1) = none := hfr _ (Nat.le_refl _)
      refine s_Qs_makePhrase_8 (rc55 := 1) (rs55 := 790) (bc61 := 0) (bs61 := 0) (rc61 := 1) (rs61 := 790) (v16 := 0) (rc55_2 := 0) (rs55_2 := 0) (bc61_2 := 0) (bs61_2 := 0) (rc61_2 := 0) (rs61_2 := 0) (Q61_2 := fun _ _ _ => False) (v33 := 0) (bc38 := 0) (bs38 := 0) (rc38 := 0) (rs38 := 0) (Q38 := fun _ _ _ => False) (by omega) (by omega) (by omega) (by omega) hG.1 c1 (by omega) (by omega) (by omega) (by omega) (by omega) (by omega) (fun _ => c_Sp_init eu_y) (fun _ => ?_) ?_ ?_ ?_ ?_ ?_ ?_
      · rintro _ _ _ ⟨rfl, rfl, rfl⟩
        rw [ev_uu]
        have hnn : n ≠ n + 1 := by omega
        have e1 : ext G (ev_up G (n + 1) (.inr (10, [.int 3, .ref n]))) := ext_f n1
        have hG1 : qsI X (ev_up G (n + 1) (.inr (10, [.int 3, .ref n]))) (va_up (nwO n ow) (n + 1) 0) q s0 h dp := by
          have := hG
          rw [List.take_zero, List.map_nil, List.append_nil] at this
          refine qs_ext this e1 (fun x c hx => ?_)
          have : x ≠ n + 1 := fun z => by subst z; rw [n1] at hx; cases hx
          simp [va_up, this]
        have hG2 : qsI X (ev_up G (n + 1) (.inr (10, [.int 3, .ref n]))) (fun x => if n ≤ x then (if n + 1 < x then 1 else 0) else ow x) q s0 h dp := by
          refine qs_ow (m := n) hG1 ?_ hqn (fun x hx => ?_)
          · simp [va_up]
          · by_cases z : x = n + 1
            · subst z
              simp [va_up]
            · by_cases z2 : n ≤ x
              · have : n + 1 < x := by omega
                simp [va_up, z, z2, this]
              · simp [va_up, z, z2]
        have hsp : spW (ev_up G (n + 1) (.inr (10, [.int 3, .ref n]))) (fun x => if n ≤ x then (if n + 1 < x then 1 else 0) else ow x) (n + 1) (3, row) := by
          refine ⟨n, f, eu_y, ?_, fun i hi => hf i (Nat.zero_le _) (by have : i < row.length := hi; omega), by simp, by simp, Nat.le_refl 3, by simp only; omega⟩
          rw [eu_n hnn, hn, hr]
        have hlen0 : s0.length < 520 := by rw [List.length_append] at hlen; omega
        refine s_Qs_makePhrase_64 (bc66 := 1) (bs66 := 780) (rc66 := 0) (rs66 := 0) hG2.1 (by omega) (by omega) (c_Qs_push (d := 1) hG2 hsp hp (by omega) (by decide) hlen0) ?_
        rintro v2 n2 F2 ⟨rfl, hn2, ow2, u1, u2, u3⟩
        refine s_Qs_makePhrase_69 ⟨rfl, by omega, ow2, fun x hx => (u1 x (by omega)).trans (if_neg (by omega)), u2, fun x c hx hw => ?_⟩
        have hxn := kn fr0 hx
        refine u3 x c (e1 x c (hF x c hx hw)) (fun z => hw ?_)
        rcases z with z | z | z | z
        · exact Or.inl z
        · exact Or.inr (Or.inl z)
        · exact Or.inr (Or.inr (Or.inl z))
        · have z2 : ow x = q + 1 := (if_neg (show ¬ n ≤ x by omega)).symm.trans z
          exact Or.inr (Or.inr (Or.inr z2))
      all_goals exact fun z => absurd (by decide) z
    | succ j ih =>
      intro G f hj hG hn hf hF
      obtain ⟨a1, ⟨vs, g2, g3, g4⟩, ⟨fd, k1, k2⟩, a4, w0, w1, w2, w3⟩ := hG
      have hjr : j < row.length := by omega
      have er : row.take (j + 1) = row.take j ++ [tg row j] := by
        rw [List.take_succ_eq_append_getElem hjr]
        congr 2
        unfold tg
        rw [List.getD_eq_getElem?_getD, List.getElem?_eq_getElem hjr]
        rfl
      rw [er, List.map_append, ← List.append_assoc] at g3 g4
      have hL := ls_len g2
      have hll : vs.length = (s0 ++ (row.take j).map (fun t => ((3, [t]) : QStep))).length + 1 := by rw [g3]; simp; omega
      have hlast : (s0 ++ (row.take j).map (fun t => ((3, [t]) : QStep))).length < vs.length := by omega
      obtain ⟨v, hv⟩ : ∃ v, vs[(s0 ++ (row.take j).map (fun t => ((3, [t]) : QStep))).length]? = some v := ⟨_, List.getElem?_eq_getElem hlast⟩
      have hsp := g4 _ v (3, [tg row j]) hv (get_mid (s0 ++ (row.take j).map (fun t => ((3, [t]) : QStep))) (3, [tg row j]) [])
      have hO := pl_O g3 g4
      have s1 : nI (j + 1) - 1 = nI j := pk_sub (a := j + 1) (b := 1) (by omega)
      have s2 : nI vs.length - 1 = nI (s0 ++ (row.take j).map (fun t => ((3, [t]) : QStep))).length := by
        rw [hll]
        exact pk_sub (a := _ + 1) (b := 1) (by omega)
      have hg2 := g2
      obtain ⟨e, mc, c1, c2⟩ := g2
      have hne : ¬ vs = [] := fun z => by rw [z] at hll; simp at hll
      have hemp := c_AL_isEmpty (l := l) (n := n + 1) hg2
      rw [decide_eq_false hne] at hemp
      have pos : ¬ nI (j + 1) - 1 < 0 := by rw [s1]; exact nI_pos (by omega)
      refine s_Qs_makePhrase_8 (rc55 := 0) (rs55 := 0) (bc61 := 0) (bs61 := 0) (rc61 := 0) (rs61 := 0) (Q61 := fun _ _ _ => False) (v16 := bI false) (rc55_2 := 0) (rs55_2 := 0) (bc61_2 := 0) (bs61_2 := 0) (rc61_2 := 0) (rs61_2 := 0) (Q61_2 := fun _ _ _ => False) (bc38 := 0) (bs38 := 0) (rc38 := 2) (rs38 := 792) (by omega) (by omega) (by omega) (by omega) a1 c1 (by omega) (by omega) (by omega) (by omega) (by omega) (by omega) (fun z => absurd z pos) (fun z => absurd z pos) (fun _ => hemp) (fun _ z => absurd rfl z) (fun _ z => absurd rfl z) (fun _ _ => c_AL_size hg2) (fun _ _ => by rw [s2]; exact c_AL_remove hg2 hv hO) (fun _ _ => ?_)
      rintro _ _ G2 ⟨rfl, rfl, hq1', hq2'⟩
      have hk2 := kp_ls hq2' w1 (by omega)
      have hsp2 := sp_kp hsp hk2 (fun _ _ _ => rfl)
      have hsp3 := hsp2
      obtain ⟨t0, f0, d1, -⟩ := hsp2
      have wn : nwO n ow n = 1 := if_pos (Nat.le_refl n)
      have hn2 : G2 n = some (.inl (1, p, .inr (.inl f))) := hk2 _ _ hn (Or.inr (Or.inl ⟨wn, by omega, by omega⟩))
      have a1' : G2 q = some (.inr (5, [.ref (q + 1), .ref (q + 2), .int (nI h)])) := hk2 _ _ a1 (Or.inr (Or.inl ⟨w0, by omega, by omega⟩))
      have k1' : G2 (q + 2) = some (.inl (0, 8, .inl fd)) := hk2 _ _ k1 (Or.inr (Or.inl ⟨w2, by omega, by omega⟩))
      have hpl := pl_last hg2 (by omega) g3 g4 hq1' hq2'
      rw [s1]
      refine s_Qs_makePhrase_41 d1 a1' hn2 (c_Qs_firstTerm hsp3) (vp_in_nI (by omega) (by omega)) ?_
      rw [n_m1, nI_clamp (by omega)]
      have hkn : kp (nwO n ow) (fun x => 1 < x ∧ x ≠ n) G2 (ev_up G2 n (.inl (1, p, .inr (.inl (vp_updL f j (tg [tg row j] 0)))))) := kp_u kp_r wn (fun z => z.2 rfl) (fun z => by omega)
      refine ih _ _ (by omega) ⟨?_, pl_kp hpl hkn ⟨by omega, by omega⟩ w1 (fun _ _ _ => rfl), ⟨fd, ?_, k2⟩, a4, w0, w1, w2, w3⟩ eu_y (fun i h1 h2 => ?_) (fun x c hx hw => ?_)
      · rw [eu_n (by omega)]
        exact a1'
      · rw [eu_n (by omega)]
        exact k1'
      · unfold vp_updL
        by_cases z : i = j
        · subst z
          simp [tg]
        · simp only [z, if_false]
          exact hf i (by omega) h2
      · have hxn := kn fr0 hx
        rw [eu_n (by omega)]
        refine hq2' x c (hF x c hx hw) (fun z => hw (Or.inr (Or.inl z))) (fun z => hw ?_)
        rw [show nwO n ow x = ow x from if_neg (by omega)] at z
        exact Or.inr (Or.inr (Or.inr z))
  refine s_Qs_makePhrase_0 (N1 := p) (rc1 := 2) (rs1 := 792) (by omega) (by omega) (nI_pos (by omega)) (nI_clamp (by omega)) (by show p * 8 ≤ _; omega) ?_
  have e1 : ext F (ev_up F n (.inl (1, p, .inr (.inl (fun _ => 0))))) := ext_f n0
  refine key p _ (fun _ => 0) (Nat.le_refl _) ?_ eu_y (fun i h1 h2 => by omega) (fun x c hx _ => e1 x c hx)
  rw [List.take_of_length_le (by omega)]
  exact qs_ext hI e1 (nw_w fr0)
end Qs4
