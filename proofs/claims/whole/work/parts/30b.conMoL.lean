/-! the reference: two segments joined, merge and commit -/
section MoL
variable {l : Launch} {X : ev_X} {n : Nat} {B : ev_H} {r : Nat} {d ro se st fu wr to he re we : Int32} {ai : Nat → Nat → Int32} {al : Nat → Nat → Int64}
theorem bI_ne {b : Bool} (h : b = true) : ¬ bI b = 0 := by rw [h]; decide
def jnR (n : Nat) (B : ev_H) (r : Nat) (d st fu wr to he re we : Int32) (ai : Nat → Nat → Int32) (al : Nat → Nat → Int64) (rl : List PRow) (se : Nat) : Option Value → Nat → ev_H → Prop := fun v n' F' => v = none ∧ n' = n ∧ ∃ ai' al', F' = (moH B r d (nI rl.length) (nI se) st fu wr to he re we ai' al') ∧ fI ai ai' ∧ fL al al' ∧ rwR ai' al' rl
theorem c_Mo_join2 {rl : List PRow} {i S less : Nat} (hr : rwR ai al rl) (h80 : rl.length ≤ 80) (hi : i < 7) (hS : 2 ≤ S ∧ S < 8) (hless : less = if rl.countP (here i) = 0 then 2 else 1) : Cal l X M_Mo_join2 0 0 [.ref r, .int (nI i)] n (moH B r d (nI rl.length) (nI S) st fu wr to he re we ai al) (jnR n B r d st fu wr to he re we ai al (jfR i less rl) (S - less)) := by
  have hl2 : less ≤ 2 ∧ 1 ≤ less := by rw [hless]; split <;> omega
  have e1i : nI i + 1 = nI (i + 1) := nI_1 i
  -- the numbers of those behind
  have key2 : ∀ (t a : List PRow) (i2 i3 : Int32) (ai' : Nat → Nat → Int32) (al' : Nat → Nat → Int64), rl.filterMap (jf1 i) = a ++ t → fI ai ai' → fL al al' → rwR ai' al' (a.map (jf2 i less) ++ t) → Ev l X M_Mo_join2 0 0 132 [(0, .ref r), (1, .int (nI i)), (2, .int i2), (3, .int i3), (4, .int (nI less)), (5, .int (nI a.length))] [] n (moH B r d (nI (rl.filterMap (jf1 i)).length) (nI S) st fu wr to he re we ai' al') (ev_mq X (jnR n B r d st fu wr to he re we ai al (jfR i less rl) (S - less))) := by
    intro t
    induction t with
    | nil =>
      intro a i2 i3 ai' al' hl hI hL hR
      rw [List.append_nil] at hl hR
      have hf : (rl.filterMap (jf1 i)).length ≤ rl.length := List.length_filterMap_le _ _
      rw [hl] at hf ⊢
      have hle : nI a.length ≤ nI a.length := (nI_leI (by omega) (by omega)).mpr (Nat.le_refl _)
      refine s_Mo_join2_132 mh_0 mh_6 (fun _ => ?_) ?_ ?_ ?_ ?_ ?_ ?_ ?_
      · rw [mu_o, pk_sub (by omega)]
        refine ⟨rfl, rfl, ai', al', ?_, hI, hL, ?_⟩
        · unfold jfR
          rw [hl, List.length_map]
        · unfold jfR
          rw [hl]
          exact hR
      all_goals exact fun c => absurd hle c
    | cons x t ih =>
      intro a i2 i3 ai' al' hl hI hL hR
      have hf : (rl.filterMap (jf1 i)).length ≤ rl.length := List.length_filterMap_le _ _
      have hll : (rl.filterMap (jf1 i)).length = a.length + (t.length + 1) := by rw [hl]; simp
      have hgt : ¬ nI (rl.filterMap (jf1 i)).length ≤ nI a.length := i_ge (by omega) (by omega) (by omega)
      have ca : (nI a.length).toNatClampNeg = a.length := nI_clamp (by omega)
      have ina : vp_in (nI a.length) 80 := vp_in_nI (by omega) (by decide)
      have hx := hR a.length x (by have := get_mid (a.map (jf2 i less)) x t; rw [List.length_map] at this; exact this)
      obtain ⟨b1, b2, b3, b4, b5, b6, b7, b8⟩ := id hx
      have cmp : ai' 6 a.length ≤ nI i + 1 ↔ x.2.1 ≤ i + 1 := by rw [b2, e1i]; exact nI_leI (by omega) (by omega)
      have next : ∀ g : Nat, g = (jf2 i less x).2.1 → Ev l X M_Mo_join2 0 0 132 [(0, .ref r), (1, .int (nI i)), (2, .int i2), (3, .int i3), (4, .int (nI less)), (5, .int (nI (a.length + 1)))] [] n (moH B r d (nI (rl.filterMap (jf1 i)).length) (nI S) st fu wr to he re we (va_up ai' 6 (upd (ai' 6) a.length (nI g))) al') (ev_mq X (jnR n B r d st fu wr to he re we ai al (jfR i less rl) (S - less))) := by
        intro g hg
        have := ih (a ++ [x]) i2 i3 (va_up ai' 6 (upd (ai' 6) a.length (nI g))) al' (by rw [hl]; simp) (fun k h5 h6 h7 h8 => by rw [← hI k h5 h6 h7 h8]; simp [va_up, h6]) hL ?_
        · rw [show (a ++ [x]).length = a.length + 1 by simp] at this
          exact this
        · rw [List.map_append, List.append_assoc]
          refine rw_mid (y := jf2 i less x) hR ?_ (fun q z hq hz => ?_)
          · rw [List.length_map]
            refine ⟨by simpa [va_up, jf2] using b1, by simp [va_up, upd, hg], by simpa [va_up, jf2] using b3, by simpa [va_up, jf2] using b4, fun j hj => b5 j hj, b6, ?_, b8⟩
            unfold jf2
            simp only
            split <;> omega
          · rw [List.length_map] at hq
            exact rA_k hz (by simp [va_up]) (by simp [va_up, upd, hq]) (by simp [va_up]) (by simp [va_up]) (fun _ _ => rfl)
      refine s_Mo_join2_132 mh_0 mh_6 (fun c => absurd c hgt) (fun _ => ina) (fun _ _ => ina) (fun _ _ => ina) (fun _ c => ?_) (fun _ _ => ina) (fun _ _ => ina) (fun _ c => ?_)
      · rw [ca] at c ⊢
        rw [cmp] at c
        rw [mu_6, nI_1, b2]
        exact next x.2.1 (by unfold jf2; rw [if_neg (by omega)])
      · rw [ca] at c ⊢
        rw [cmp] at c
        rw [mu_6, nI_1, b2, pk_sub (by omega)]
        exact next (x.2.1 - less) (by unfold jf2; rw [if_pos (by omega)])
  -- what stays
  have key1 : ∀ (t a : List PRow) (ai' : Nat → Nat → Int32) (al' : Nat → Nat → Int64), rl = a ++ t → fI ai ai' → fL al al' → rwR ai' al' (a.filterMap (jf1 i)) → (∀ q x, t[q]? = some x → rA ai' al' (a.length + q) x) → Ev l X M_Mo_join2 0 0 7 [(0, .ref r), (1, .int (nI i)), (2, .int (nI (a.filterMap (jf1 i)).length)), (3, .int (nI (a.countP (here i)))), (4, .int (nI a.length))] [] n (moH B r d (nI rl.length) (nI S) st fu wr to he re we ai' al') (ev_mq X (jnR n B r d st fu wr to he re we ai al (jfR i less rl) (S - less))) := by
    intro t
    induction t with
    | nil =>
      intro a ai' al' hl hI hL hD hT
      rw [List.append_nil] at hl
      subst hl
      have hle : nI rl.length ≤ nI rl.length := (nI_leI (by omega) (by omega)).mpr (Nat.le_refl _)
      have hc : rl.countP (here i) ≤ 80 := Nat.le_trans List.countP_le_length h80
      have h0 := key2 (rl.filterMap (jf1 i)) [] (nI (rl.filterMap (jf1 i)).length) (nI (rl.countP (here i))) ai' al' rfl hI hL hD
      refine s_Mo_join2_7 mh_0 mh_6 (fun _ a => ?_) (fun _ a => ?_) ?_ ?_ ?_ ?_ ?_
      · have z : rl.countP (here i) = 0 := by
          have := (nI_leI (b := 0) (by omega) (by decide)).mp a
          omega
        rw [if_pos z] at hless
        subst hless
        rw [mu_o]
        exact h0
      · have z : ¬ rl.countP (here i) = 0 := fun z => a (by rw [z]; decide)
        rw [if_neg z] at hless
        subst hless
        rw [mu_o]
        exact h0
      all_goals exact fun c => absurd hle c
    | cons x t ih =>
      intro a ai' al' hl hI hL hD hT
      have hll : rl.length = a.length + (t.length + 1) := by rw [hl]; simp
      have hgt : ¬ nI rl.length ≤ nI a.length := i_ge (by omega) (by omega) (by omega)
      have ca : (nI a.length).toNatClampNeg = a.length := nI_clamp (by omega)
      have ina : vp_in (nI a.length) 80 := vp_in_nI (by omega) (by decide)
      have hx : rA ai' al' a.length x := by
        have := hT 0 x rfl
        rwa [Nat.add_zero] at this
      obtain ⟨b1, b2, b3, b4, b5, b6, b7, b8⟩ := id hx
      have hst : (a.filterMap (jf1 i)).length ≤ a.length := List.length_filterMap_le _ _
      have efm : (a ++ [x]).filterMap (jf1 i) = a.filterMap (jf1 i) ++ (jf1 i x).toList := by
        rw [List.filterMap_append]
        congr 1
      have ecn : (a ++ [x]).countP (here i) = a.countP (here i) + (if here i x then 1 else 0) := by
        rw [List.countP_append]
        simp [List.countP_cons]
      have hla : (a ++ [x]).length = a.length + 1 := by simp
      have hT2 : ∀ (ai2 : Nat → Nat → Int32) (al2 : Nat → Nat → Int64), (∀ q z, a.length < q → rA ai' al' q z → rA ai2 al2 q z) → ∀ q z, t[q]? = some z → rA ai2 al2 ((a ++ [x]).length + q) z := fun ai2 al2 ho q z hz => by
        rw [hla]
        refine ho _ z (by omega) ?_
        have := hT (q + 1) z (by rw [List.getElem?_cons_succ]; exact hz)
        rwa [show a.length + (q + 1) = a.length + 1 + q by omega] at this
      -- it goes
      have gone : jf1 i x = none → here i x = false → Ev l X M_Mo_join2 0 0 7 [(0, .ref r), (1, .int (nI i)), (2, .int (nI (a.filterMap (jf1 i)).length)), (3, .int (nI (a.countP (here i)))), (4, .int (nI (a.length + 1)))] [] n (moH B r d (nI rl.length) (nI S) st fu wr to he re we ai' al') (ev_mq X (jnR n B r d st fu wr to he re we ai al (jfR i less rl) (S - less))) := by
        intro h1 h2
        have := ih (a ++ [x]) ai' al' (by rw [hl]; simp) hI hL (by rw [efm, h1, Option.toList_none, List.append_nil]; exact hD) (hT2 ai' al' (fun _ _ _ h => h))
        rw [efm, h1, ecn, h2, hla] at this
        simpa using this
      -- it stays
      have stays : ∀ (i5 : Int32) (g : Nat) (y : PRow), jf1 i x = some y → y.1 = x.1 → y.2.1 = g → y.2.2 = x.2.2 → (i5 = 0 ↔ here i x = false) → (i5 = 0 → g = x.2.1) → (¬ i5 = 0 → g = i) → Ev l X M_Mo_join2 0 0 62 [(0, .ref r), (1, .int (nI i)), (2, .int (nI (a.filterMap (jf1 i)).length)), (3, .int (nI (a.countP (here i)))), (4, .int (nI a.length)), (5, .int i5)] [] n (moH B r d (nI rl.length) (nI S) st fu wr to he re we ai' al') (ev_mq X (jnR n B r d st fu wr to he re we ai al (jfR i less rl) (S - less))) := by
        intro i5 g y hy y1 y2 y3 h5 h50 h51
        generalize hN : (a.filterMap (jf1 i)).length = N at hst ⊢
        have cN : (nI N).toNatClampNeg = N := nI_clamp (by omega)
        refine s_Mo_join2_62 (bc66 := 0) (bs66 := 0) (rc66 := 0) (rs66 := 0) mh_0 (by omega) (by omega) (c_Mo_copyRow (by omega) (by omega) b3) ?_
        rintro _ nn _ ⟨rfl, rfl, rfl⟩
        have hcp := cp_s (f := a.length) (s := N) hx
        have hseg : cpI ai' a.length N 6 a.length = nI x.2.1 := by
          by_cases z : a.length = N
          · have := hcp.2.1
            rw [← z] at this
            rw [← z]
            exact this
          · exact (cp_o (f := a.length) (s := N) z hx).2.1
        have fin : ∀ (c : Nat) (hc : c = a.countP (here i) + (if here i x then 1 else 0)), Ev l X M_Mo_join2 0 0 103 [(0, .ref r), (1, .int (nI i)), (2, .int (nI N)), (3, .int (nI (a.countP (here i)))), (4, .int (nI a.length)), (5, .int i5)] [.int (nI c)] nn (moH B r d (nI rl.length) (nI S) st fu wr to he re we (va_up (cpI ai' a.length N) 6 (upd (cpI ai' a.length N 6) N (nI g))) (va_up al' 9 (cpR (al' 9) a.length N 12))) (ev_mq X (jnR nn B r d st fu wr to he re we ai al (jfR i less rl) (S - less))) := by
          intro c hc
          refine s_Mo_join2_103 ?_
          rw [nI_1, nI_1]
          have := ih (a ++ [x]) (va_up (cpI ai' a.length N) 6 (upd (cpI ai' a.length N 6) N (nI g))) (va_up al' 9 (cpR (al' 9) a.length N 12)) (by rw [hl]; simp) (fun k h5 h6 h7 h8 => by rw [← hI k h5 h6 h7 h8, ← cp_f (ai := ai') a.length N k h5 h6 h7 h8]; simp [va_up, h6]) (fun k hk => by rw [← hL k hk]; simp [va_up, hk]) ?_ (hT2 _ _ (fun q z hq hz => ?_))
          · rw [efm, hy, ecn, hla, ← hc] at this
            simp only [Option.toList_some, List.length_append, List.length_singleton, hN] at this
            exact this
          · rw [efm, hy]
            refine rw_app hD ?_ (fun q z hq hz => ?_)
            · rw [hN]
              obtain ⟨c1, c2, c3, c4, c5, c6, c7, c8⟩ := hcp
              refine ⟨?_, ?_, ?_, ?_, fun j hj => ?_, by rw [y1]; exact c6, ?_, by rw [y3]; exact c8⟩
              · rw [y1, ← c1]; simp [va_up]
              · rw [y2]; simp [va_up, upd]
              · rw [y3, ← c3]; simp [va_up]
              · rw [y3, ← c4]; simp [va_up]
              · rw [y3] at hj ⊢
                exact c5 j hj
              · rw [y2]
                by_cases z : i5 = 0
                · rw [h50 z]; exact b7
                · rw [h51 z]; omega
            · rw [hN] at hq
              have hqn : q ≠ N := by omega
              exact rA_k (cp_o (f := a.length) hqn hz) (by simp [va_up]) (by simp [va_up, upd, hqn]) (by simp [va_up]) (by simp [va_up]) (fun _ _ => rfl)
          · have hqn : q ≠ N := by omega
            exact rA_k (cp_o (f := a.length) hqn hz) (by simp [va_up]) (by simp [va_up, upd, hqn]) (by simp [va_up]) (by simp [va_up]) (fun _ _ => rfl)
        have fin90 : Ev l X M_Mo_join2 0 0 90 [(0, .ref r), (1, .int (nI i)), (2, .int (nI N)), (3, .int (nI (a.countP (here i)))), (4, .int (nI a.length)), (5, .int i5)] [.int (nI g), .int (nI N), .ref (r + 6)] nn (moH B r d (nI rl.length) (nI S) st fu wr to he re we (cpI ai' a.length N) (va_up al' 9 (cpR (al' 9) a.length N 12))) (ev_mq X (jnR nn B r d st fu wr to he re we ai al (jfR i less rl) (S - less))) := by
          refine s_Mo_join2_90 mh_6 (vp_in_nI (by omega) (by decide)) (fun z => ?_) (fun z => ?_)
          · rw [cN, mu_6]
            exact fin (a.countP (here i)) (by rw [h5.mp z]; rfl)
          · rw [cN, mu_6, nI_1]
            refine fin (a.countP (here i) + 1) ?_
            have : here i x = true := by
              cases hh : here i x with
              | true => rfl
              | false => exact absurd (h5.mpr hh) z
            rw [this]
            rfl
        refine s_Mo_join2_69 mh_0 mh_6 (fun _ => ina) (fun z => ?_) (fun z => ?_)
        · rw [ca, hseg, ← h50 z]
          exact fin90
        · have := fin90
          rw [h51 z] at this
          exact this
      have in45 : ∀ is0 : Nat, is0 ≤ 1 → (is0 = 1 ↔ (x.2.1 = i ∨ x.2.1 = i + 1)) → Ev l X M_Mo_join2 0 0 45 [(0, .ref r), (1, .int (nI i)), (2, .int (nI (a.filterMap (jf1 i)).length)), (3, .int (nI (a.countP (here i)))), (4, .int (nI a.length))] [.int (nI is0)] n (moH B r d (nI rl.length) (nI S) st fu wr to he re we ai' al') (ev_mq X (jnR n B r d st fu wr to he re we ai al (jfR i less rl) (S - less))) := by
        intro is0 h1 his
        have z0 : nI is0 = 0 ↔ is0 = 0 := nI_eq (b := 0) (by omega) (by decide)
        refine s_Mo_join2_45 mh_0 mh_7 (fun z => ?_) (fun _ => ina) (fun z c => ?_) (fun z c => ?_)
        · have hn : ¬ (x.2.1 = i ∨ x.2.1 = i + 1) := fun q => by
            have := his.mpr q
            have := z0.mp z
            omega
          have hh : here i x = false := by simp only [here, hn, decide_false, Bool.false_and]
          exact stays _ x.2.1 x (if_neg hn) rfl rfl rfl ⟨fun _ => hh, fun _ => z⟩ (fun _ => rfl) (fun q => absurd z q)
        · have hp : x.2.1 = i ∨ x.2.1 = i + 1 := his.mp (by rw [z0] at z; omega)
          rw [ca, b3] at c
          have hd : x.2.2.1 = true := bI_n0 c
          rw [nI_1]
          exact gone (by unfold jf1; rw [if_pos hp, hd]; rfl) (by simp [here, hd])
        · have hp : x.2.1 = i ∨ x.2.1 = i + 1 := his.mp (by rw [z0] at z; omega)
          rw [ca, b3] at c
          have hd : x.2.2.1 = false := bI_1.mp c
          have hh : here i x = true := by simp only [here, hp, decide_true, hd, Bool.not_false, Bool.and_self]
          refine stays _ i (x.1, i, x.2.2.1, x.2.2.2) ?_ rfl rfl rfl ⟨fun q => absurd q z, fun q => ?_⟩ (fun q => absurd q z) (fun _ => rfl)
          · unfold jf1
            rw [if_pos hp, hd]
            rfl
          · rw [hh] at q
            cases q
      have ei : ai' 6 a.length = nI i ↔ x.2.1 = i := by rw [b2]; exact nI_eq (by omega) (by omega)
      have ei1 : ai' 6 a.length = nI i + 1 ↔ x.2.1 = i + 1 := by rw [b2, e1i]; exact nI_eq (by omega) (by omega)
      refine s_Mo_join2_7 mh_0 mh_6 (fun c => absurd c hgt) (fun c => absurd c hgt) (fun _ => ina) (fun _ c => ?_) (fun _ _ => ina) (fun _ c e => ?_) (fun _ c e => ?_)
      · rw [ca, ei] at c
        exact in45 1 (Nat.le_refl _) ⟨fun _ => Or.inl c, fun _ => rfl⟩
      · rw [ca, ei] at c
        rw [ca, ei1] at e
        exact in45 0 (by omega) ⟨fun q => by omega, fun q => by omega⟩
      · rw [ca, ei1] at e
        exact in45 1 (Nat.le_refl _) ⟨fun _ => Or.inr e, fun _ => rfl⟩
  refine Cal.of (by decide) (Nat.le_of_ble_eq_true rfl) (s_Mo_join2_0 (key1 rl [] ai al rfl (fun _ _ _ _ _ => rfl) (fun _ _ => rfl) (fun q x hx => by simp at hx) (fun q x hx => ?_)))
  have := hr q x hx
  simpa using this
end MoL
