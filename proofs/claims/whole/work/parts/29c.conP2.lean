/-! its own methods: commit, merge -/
section ConP2
variable {l : Launch} {X : ev_X} {n : Nat} {F G : ev_H} {ow ow' : Nat → Nat} {p : Nat} {gs : List Nat} {dr : List Int64} {pd : List Doc} {pm : Nat} {sg : List Seg} {lv : List Doc} {w b : Nat} {st : Bool} {ss : List QStep} {h : Nat} {dp : Nat → Nat} {wc : Nat} {rs : List (Nat × Nat)}
theorem c_P_goDown (hI : (psI X F ow p gs dr pd pm sg lv w b st ss h dp wc rs)) : Cal l X M_P_goDown 0 0 [.ref p] n F (psQ X n F ow p gs (.int (-9)) ([]) ([]) 0 sg lv w b st ([]) 0 dp wc rs) := by
  refine Cal.of (by decide) (Nat.le_of_ble_eq_true rfl) (ev_fresh fun fr0 => ?_)
  obtain ⟨f', r1, r2⟩ := id hI.2.2.1
  have hlt := ps_lt fr0 hI
  obtain ⟨o1, o2⟩ := ps_0 (n := n) (m := 0) (dr' := []) hI rfl (by simp) ⟨f', r1, fun j hj => absurd hj (Nat.not_lt_zero _)⟩
  have fr1 : ∀ q : Nat, n ≤ q → ev_up F p (psO p (nI 0)) q = none := fun q hq => by rw [eu_n (by omega)]; exact fr0 q hq
  refine s_P_goDown_0 (bc9 := 0) (bs9 := 0) (rc9 := 0) (rs9 := 0) hI.1 hI.2.2.2.1.1 (by omega) (by omega) (c_Pe_clear o1.2.2.2.1) ?_
  rintro _ n2 G2 ⟨rfl, hn2, ow2, u2, hq2, hf2⟩
  obtain ⟨m1, m2⟩ := ps_pe fr1 o1 hn2 u2 hq2 hf2
  refine ev_fresh fun fr2 => s_P_goDown_12 (bc16 := 0) (bs16 := 0) (rc16 := 0) (rs16 := 0) m1.1 m1.2.2.2.2.2.2.1.1 (by omega) (by omega) (c_Qs_clear m1.2.2.2.2.2.2.1) ?_
  rintro _ n3 G3 ⟨rfl, hn3, ow3, u3, hq3, hf3⟩
  obtain ⟨v1, v2⟩ := ps_qs fr2 m1 hn3 u3 hq3 hf3
  exact s_P_goDown_19 ⟨rfl, ow3, gs, psS_t fr0 o2 (psS_t fr1 m2 (psS_t fr2 v2 psS_r)), v1⟩
theorem c_P_commit_stop (hI : (psI X F ow p gs dr pd pm sg lv w b true ss h dp wc rs)) : Cal l X M_P_commit 27 505 [.ref p] n F (psQ X n F ow p gs (.int (-9)) dr pd pm sg lv w b true ss h dp wc rs) := by
  obtain ⟨r1, mc1, q1⟩ := sl_cell hI.2.2.2.2.1.2.1
  obtain ⟨r2, mc2, q2⟩ := dl_cell hI.2.2.2.1.2.1
  refine Cal.of (by decide) (Nat.le_of_ble_eq_true rfl) (s_P_commit_0 (v17 := 0) (v32 := 0) (v45 := 0) hI.1 hI.2.2.2.2.2.1 hI.2.2.2.1.1 q2 hI.2.2.2.2.1.1 q1 ?_ ?_ ?_ ?_ ?_ ?_ ?_ (fun _ => ps_same hI))
  all_goals exact fun c => absurd c (by decide)
theorem popc_le (m : Nat) : popc m ≤ 12 := by
  unfold popc
  omega
theorem c_P_commit_none (hI : (psI X F ow p gs dr pd pm sg lv w b false ss h dp wc rs)) (h0 : popc pm = 0) : Cal l X M_P_commit 27 505 [.ref p] n F (psQ X n F ow p gs (.int (-1)) dr pd pm sg lv w b false ss h dp wc rs) := by
  obtain ⟨r1, mc1, q1⟩ := sl_cell hI.2.2.2.2.1.2.1
  obtain ⟨r2, mc2, q2⟩ := dl_cell hI.2.2.2.1.2.1
  have z : nI (popc pm) = 0 := by rw [h0]; rfl
  exact Cal.of (by decide) (Nat.le_of_ble_eq_true rfl) (s_P_commit_0 (v32 := 0) (v45 := 0) hI.1 hI.2.2.2.2.2.1 hI.2.2.2.1.1 q2 hI.2.2.2.2.1.1 q1 (fun _ => c_Pe_idCount hI.2.2.2.1) (fun _ a => absurd z a) (fun _ a => absurd z a) (fun _ a => absurd z a) (fun _ a => absurd z a) (fun _ a => absurd z a) (fun _ _ => ps_same hI) (fun a => absurd rfl a))
theorem c_P_commit_full (hI : (psI X F ow p gs dr pd pm sg lv w b false ss h dp wc rs)) (h0 : ¬ popc pm = 0) (hpd : ¬ pd = []) (h6 : sg.length = 6) : Cal l X M_P_commit 27 505 [.ref p] n F (psQ X n F ow p gs (.int (-2)) dr pd pm sg lv w b false ss h dp wc rs) := by
  obtain ⟨r1, mc1, q1⟩ := sl_cell hI.2.2.2.2.1.2.1
  obtain ⟨r2, mc2, q2⟩ := dl_cell hI.2.2.2.1.2.1
  have hp := popc_le pm
  have z : ¬ nI (popc pm) = 0 := fun z => h0 ((nI_eq (b := 0) (by omega) (by decide)).mp z)
  have e : bI (decide (pd = [])) = 0 := by rw [decide_eq_false hpd]; rfl
  have n6 : ¬ nI sg.length < 6 := by rw [h6]; decide
  exact Cal.of (by decide) (Nat.le_of_ble_eq_true rfl) (s_P_commit_0 hI.1 hI.2.2.2.2.2.1 hI.2.2.2.1.1 q2 hI.2.2.2.2.1.1 q1 (fun _ => c_Pe_idCount hI.2.2.2.1) (fun _ _ => dl_isEmpty hI.2.2.2.1.2.1) (fun _ _ a => absurd e a) (fun _ _ _ => sl_size hI.2.2.2.2.1.2.1) (fun _ _ _ a => absurd a n6) (fun _ _ _ _ => ps_same hI) (fun _ a => absurd a z) (fun a => absurd rfl a))
/-- the blocks of a commit -/
def cmK (pd : List Doc) (pm : Nat) (lv : List Doc) : Nat := pd.length + (if hasA lv pm lv.length then 1 else 0) + 1
def cmS (pd : List Doc) (pm : Nat) (sg : List Seg) : List Seg := if pd = [] then sg.map (mkS pm) else sg.map (mkS pm) ++ [(pd, 0)]
def cmL (pd : List Doc) (pm : Nat) (lv : List Doc) : List Doc := insA (lv.filter (fun d => !pm.testBit d.1)) pd
theorem c_P_commit_ok (hI : (psI X F ow p gs dr pd pm sg lv w b false ss h dp wc rs)) (h0 : ¬ popc pm = 0) (h6 : pd ≠ [] → sg.length < 6) (h12 : (lv.filter (fun d => !pm.testBit d.1)).length + pd.length ≤ 12) (hb : b ≤ 100) :
    Cal l X M_P_commit 27 505 [.ref p] n F (fun v' n' F' =>
      (¬ (0 < b ∧ b ≤ cmK pd pm lv) → psQ X n F ow p gs (.int (nI (cmL pd pm lv).length)) dr ([]) 0 (cmS pd pm sg) (cmL pd pm lv) (w + cmK pd pm lv) (b - cmK pd pm lv) false ss h dp wc rs v' n' F') ∧
      ((0 < b ∧ b ≤ cmK pd pm lv) → b = cmK pd pm lv → psQ X n F ow p gs (.int (-9)) ([]) ([]) 0 (cmS pd pm sg) (cmL pd pm lv) (w + b) 0 true ([]) 0 dp wc rs v' n' F') ∧
      ((0 < b ∧ b ≤ cmK pd pm lv) → ¬ b = cmK pd pm lv → psQ X n F ow p gs (.int (-9)) ([]) ([]) 0 sg lv (w + b) 0 true ([]) 0 dp wc rs v' n' F')) := by
  refine Cal.of (by decide) (Nat.le_of_ble_eq_true rfl) (ev_fresh fun fr0 => ?_)
  obtain ⟨r1, mc1, q1⟩ := sl_cell hI.2.2.2.2.1.2.1
  obtain ⟨r2, mc2, q2⟩ := dl_cell hI.2.2.2.1.2.1
  have hp := popc_le pm
  have hm := hI.2.2.2.1.2.2.1
  have hlt := ps_lt fr0 hI
  have z : ¬ nI (popc pm) = 0 := fun z => h0 ((nI_eq (b := 0) (by omega) (by decide)).mp z)
  have hK : cmK pd pm lv ≤ 14 := by unfold cmK; split <;> omega
  have hw := hI.2.2.2.2.2.2.2.2.2.1
  have hg := hI.2.2.2.2.2.2.2.2.2.2.1
  generalize hQ : (fun (v' : Option Value) (n' : Nat) (F' : ev_H) =>
      (¬ (0 < b ∧ b ≤ cmK pd pm lv) → psQ X n F ow p gs (.int (nI (cmL pd pm lv).length)) dr ([]) 0 (cmS pd pm sg) (cmL pd pm lv) (w + cmK pd pm lv) (b - cmK pd pm lv) false ss h dp wc rs v' n' F') ∧
      ((0 < b ∧ b ≤ cmK pd pm lv) → b = cmK pd pm lv → psQ X n F ow p gs (.int (-9)) ([]) ([]) 0 (cmS pd pm sg) (cmL pd pm lv) (w + b) 0 true ([]) 0 dp wc rs v' n' F') ∧
      ((0 < b ∧ b ≤ cmK pd pm lv) → ¬ b = cmK pd pm lv → psQ X n F ow p gs (.int (-9)) ([]) ([]) 0 sg lv (w + b) 0 true ([]) 0 dp wc rs v' n' F')) = Q
  -- the end: alive or down
  have alive : ∀ (i1 : Int32) (n2 : Nat) (G : ev_H) (ow2 : Nat → Nat) (gs2 : List Nat), ¬ (0 < b ∧ b ≤ cmK pd pm lv) → psS p n F ow gs n2 G ow2 gs2 → (psI X G ow2 p gs2 dr ([]) 0 (cmS pd pm sg) (cmL pd pm lv) (w + cmK pd pm lv) (b - cmK pd pm lv) false ss h dp wc rs) → Ev l X M_P_commit 0 0 121 [(0, .ref p), (1, .int i1)] [] n2 G (ev_mq X Q) := by
    intro i1 n2 G ow2 gs2 hc hS hG
    obtain ⟨r3, mc3, q3⟩ := dl_cell hG.2.2.2.2.1.2.2.1
    refine s_P_commit_121 (bc132 := 0) (bs132 := 0) (rc132 := 0) (rs132 := 0) (Q132 := fun _ _ _ => False) hG.1 hG.2.2.2.2.2.1 hG.2.2.2.2.1.1 q3 (by omega) (by omega) (fun _ => dl_size hG.2.2.2.2.1.2.2.1) (fun _ => s_P_commit_148 ?_) (fun a => absurd rfl a) (fun a => absurd rfl a)
    rw [← hQ]
    exact ⟨fun _ => ⟨rfl, ow2, gs2, hS, hG⟩, fun a => absurd a hc, fun a => absurd a hc⟩
  have downA : ∀ (i1 : Int32) (n2 : Nat) (G : ev_H) (ow2 : Nat → Nat) (gs2 : List Nat) (pd2 : List Doc) (pm2 : Nat) (sg2 : List Seg) (lv2 : List Doc), (∀ v' n' F', psQ X n F ow p gs (.int (-9)) ([]) ([]) 0 sg2 lv2 (w + b) 0 true ([]) 0 dp wc rs v' n' F' → Q v' n' F') → psS p n F ow gs n2 G ow2 gs2 → (psI X G ow2 p gs2 dr pd2 pm2 sg2 lv2 (w + b) 0 true ss h dp wc rs) → Ev l X M_P_commit 0 0 121 [(0, .ref p), (1, .int i1)] [] n2 G (ev_mq X Q) := by
    intro i1 n2 G ow2 gs2 pd2 pm2 sg2 lv2 hc hS hG
    obtain ⟨r3, mc3, q3⟩ := dl_cell hG.2.2.2.2.1.2.2.1
    refine s_P_commit_121 (v145 := 0) (bc132 := 0) (bs132 := 0) (rc132 := 0) (rs132 := 0) hG.1 hG.2.2.2.2.2.1 hG.2.2.2.2.1.1 q3 (by omega) (by omega) (fun a => absurd a (by decide)) (fun a => absurd a (by decide)) (fun _ => c_P_goDown hG) (fun _ => ?_)
    rintro _ n3 G3 ⟨rfl, ow3, gs3, t1, t2⟩
    exact s_P_commit_135 (s_P_commit_148 (hc _ _ _ ⟨rfl, ow3, gs3, psS_t fr0 hS t1, t2⟩))
  have main : ∀ is0 : Nat, is0 = (if hasA lv pm lv.length then 1 else 0) → Ev l X M_P_commit 27 505 78 [(0, .ref p)] [.int (nI is0)] n F (ev_mq X Q) := by
    intro is0 hi0
    have ek : (nI pd.length + nI is0) + 1 = nI (cmK pd pm lv) := by
      rw [nI_add, nI_1, hi0]
      rfl
    refine s_P_commit_78 (bc97 := 0) (bs97 := 0) (rc97 := 27) (rs97 := 505) hI.1 hI.2.2.2.1.1 q2 hI.2.2.2.2.2.1 (by omega) (by omega) (dl_size hI.2.2.2.1.2.1) (by rw [ek]; exact c_Ma_writeBlocks (w := nI w) hI.2.2.2.2.2.1 hb (by omega)) ?_
    rintro _ nn _ ⟨rfl, rfl, rfl⟩
    rw [nI_add]
    by_cases hc : 0 < b ∧ b ≤ cmK pd pm lv
    · have ew : wdone b (cmK pd pm lv) = b := if_pos hc
      rw [ew, Nat.sub_self, decide_eq_true hc]
      obtain ⟨m1, m2⟩ := ps_ma (n := nn) (w' := w + b) (b' := 0) (st' := true) hI
      have fr1 : ∀ q : Nat, nn ≤ q → ev_up F (p + 10) (maO (nI (w + b)) 0 true) q = none := fun q hq => by rw [eu_n (by omega)]; exact fr0 q hq
      by_cases he : b = cmK pd pm lv
      · rw [decide_eq_true he]
        refine s_P_commit_100 (bc111 := 27) (bs111 := 505) (rc111 := 0) (rs111 := 0) m1.1 m1.2.2.2.2.1.1 (by omega) (by omega) (fun a => absurd a (by decide)) (fun _ => c_Sh_takeIn m1.2.2.2.2.1 m1.2.2.2.1 (hw 6 (by omega)) ⟨by omega, by omega, fun q => by have := hg _ q; omega⟩ ⟨by omega, by omega, fun q => by have := hg _ q; omega⟩ h6 h12) (fun _ => ?_)
        rintro _ n2 G2 ⟨rfl, hn2, ow2, gs2, u2, hq2, hg2, hk2⟩
        obtain ⟨t1, t2⟩ := ps_sh fr1 m1 hn2 u2 hq2 hg2 hk2
        refine ev_fresh fun fr2 => s_P_commit_114 (bc118 := 0) (bs118 := 0) (rc118 := 0) (rs118 := 0) t1.1 t1.2.2.2.1.1 (by omega) (by omega) (c_Pe_clear t1.2.2.2.1) ?_
        rintro _ n3 G3 ⟨rfl, hn3, ow3, u3, hq3, hf3⟩
        obtain ⟨s1, s2⟩ := ps_pe fr2 t1 hn3 u3 hq3 hf3
        refine downA _ n3 G3 ow3 gs2 _ _ _ _ (fun v' n' F' hz => ?_) (psS_t fr0 m2 (psS_t fr1 t2 s2)) s1
        rw [← hQ]
        exact ⟨fun a => absurd hc a, fun _ _ => hz, fun _ a => absurd he a⟩
      · rw [decide_eq_false he]
        refine s_P_commit_100 (bc111 := 0) (bs111 := 0) (rc111 := 0) (rs111 := 0) (Q111 := fun _ _ _ => False) m1.1 m1.2.2.2.2.1.1 (by omega) (by omega) (fun _ => ?_) (fun a => absurd rfl a) (fun a => absurd rfl a)
        refine Ev.room (Nat.zero_le _) (Nat.zero_le _) (downA _ nn _ ow gs _ _ _ _ (fun v' n' F' hz => ?_) m2 m1)
        rw [← hQ]
        exact ⟨fun a => absurd hc a, fun _ a => absurd a he, fun _ _ => hz⟩
    · have ew : wdone b (cmK pd pm lv) = cmK pd pm lv := if_neg hc
      rw [ew, decide_eq_true rfl, decide_eq_false hc]
      obtain ⟨m1, m2⟩ := ps_ma (n := nn) (w' := w + cmK pd pm lv) (b' := b - cmK pd pm lv) (st' := false) hI
      have fr1 : ∀ q : Nat, nn ≤ q → ev_up F (p + 10) (maO (nI (w + cmK pd pm lv)) (b - cmK pd pm lv) false) q = none := fun q hq => by rw [eu_n (by omega)]; exact fr0 q hq
      refine s_P_commit_100 (bc111 := 27) (bs111 := 505) (rc111 := 0) (rs111 := 0) m1.1 m1.2.2.2.2.1.1 (by omega) (by omega) (fun a => absurd a (by decide)) (fun _ => c_Sh_takeIn m1.2.2.2.2.1 m1.2.2.2.1 (hw 6 (by omega)) ⟨by omega, by omega, fun q => by have := hg _ q; omega⟩ ⟨by omega, by omega, fun q => by have := hg _ q; omega⟩ h6 h12) (fun _ => ?_)
      rintro _ n2 G2 ⟨rfl, hn2, ow2, gs2, u2, hq2, hg2, hk2⟩
      obtain ⟨t1, t2⟩ := ps_sh fr1 m1 hn2 u2 hq2 hg2 hk2
      refine ev_fresh fun fr2 => s_P_commit_114 (bc118 := 0) (bs118 := 0) (rc118 := 0) (rs118 := 0) t1.1 t1.2.2.2.1.1 (by omega) (by omega) (c_Pe_clear t1.2.2.2.1) ?_
      rintro _ n3 G3 ⟨rfl, hn3, ow3, u3, hq3, hf3⟩
      obtain ⟨s1, s2⟩ := ps_pe fr2 t1 hn3 u3 hq3 hf3
      exact alive _ n3 G3 ow3 gs2 hc (psS_t fr0 m2 (psS_t fr1 t2 s2)) s1
  have go56 : Ev l X M_P_commit 27 505 56 [(0, .ref p)] [] n F (ev_mq X Q) := by
    refine s_P_commit_56 hI.1 hI.2.2.2.1.1 hI.2.2.2.2.1.1 (c_Sh_hasLiveAmong hI.2.2.2.2.1 hm) (fun a => main 0 ?_) (fun a => main 1 ?_)
    · rw [bI_1.mp a]; rfl
    · rw [bI_n0 a]; rfl
  refine s_P_commit_0 hI.1 hI.2.2.2.2.2.1 hI.2.2.2.1.1 q2 hI.2.2.2.2.1.1 q1 (fun _ => c_Pe_idCount hI.2.2.2.1) (fun _ _ => dl_isEmpty hI.2.2.2.1.2.1) (fun _ _ _ => go56) (fun _ _ _ => sl_size hI.2.2.2.2.1.2.1) (fun _ _ _ _ => go56) (fun _ _ a c => ?_) (fun _ a => absurd a z) (fun a => absurd rfl a)
  exfalso
  have e : ¬ pd = [] := by simpa using bI_1.mp a
  have := h6 e
  exact c ((nI_ltI (b := 6) (by omega) (by decide)).mpr this)
theorem c_P_merge_stop {i : Int32} (hI : (psI X F ow p gs dr pd pm sg lv w b true ss h dp wc rs)) : Cal l X M_P_merge 26 965 [.ref p, .int i] n F (psQ X n F ow p gs (.int (-9)) dr pd pm sg lv w b true ss h dp wc rs) := by
  obtain ⟨r1, mc1, q1⟩ := sl_cell hI.2.2.2.2.1.2.1
  refine Cal.of (by decide) (Nat.le_of_ble_eq_true rfl) (s_P_merge_0 (v25 := 0) (bc40 := 0) (bs40 := 0) (rc40 := 0) (rs40 := 0) (Q40 := fun _ _ _ => False) hI.1 hI.2.2.2.2.2.1 hI.2.2.2.2.1.1 q1 (by omega) (by omega) ?_ ?_ ?_ ?_ ?_ (fun _ => ps_same hI))
  all_goals exact fun c => absurd c (by decide)
theorem c_P_merge_no {i : Int32} (hI : (psI X F ow p gs dr pd pm sg lv w b false ss h dp wc rs)) (hn : i < 0 ∨ ¬ i < nI sg.length - 1) : Cal l X M_P_merge 26 965 [.ref p, .int i] n F (psQ X n F ow p gs (.int (-1)) dr pd pm sg lv w b false ss h dp wc rs) := by
  obtain ⟨r1, mc1, q1⟩ := sl_cell hI.2.2.2.2.1.2.1
  have hx : ∀ {A : Prop}, ¬ i < 0 → i < nI sg.length - 1 → A := fun a c => hn.elim (fun z => absurd z a) (fun z => absurd c z)
  exact Cal.of (by decide) (Nat.le_of_ble_eq_true rfl) (s_P_merge_0 (bc40 := 0) (bs40 := 0) (rc40 := 0) (rs40 := 0) (Q40 := fun _ _ _ => False) hI.1 hI.2.2.2.2.2.1 hI.2.2.2.2.1.1 q1 (by omega) (by omega) (fun _ _ => ps_same hI) (fun _ _ => sl_size hI.2.2.2.2.1.2.1) (fun _ a c => hx a c) (fun _ a c => hx a c) (fun _ _ _ => ps_same hI) (fun a => absurd rfl a))
theorem c_P_merge_ok {A B : List Seg} {y1 y2 : Seg} (hI : (psI X F ow p gs dr pd pm (A ++ y1 :: y2 :: B) lv w b false ss h dp wc rs)) (hJ : (livS y1 ++ livS y2).length ≤ 12) (hb : b ≤ 100) :
    Cal l X M_P_merge 26 965 [.ref p, .int (nI A.length)] n F (fun v' n' F' =>
      (¬ (0 < b ∧ b ≤ (livS y1 ++ livS y2).length + 1) → psQ X n F ow p gs (.int (nI (joS A (livS y1 ++ livS y2) B).length)) dr pd pm (joS A (livS y1 ++ livS y2) B) lv (w + ((livS y1 ++ livS y2).length + 1)) (b - ((livS y1 ++ livS y2).length + 1)) false ss h dp wc rs v' n' F') ∧
      ((0 < b ∧ b ≤ (livS y1 ++ livS y2).length + 1) → b = (livS y1 ++ livS y2).length + 1 → psQ X n F ow p gs (.int (-9)) ([]) ([]) 0 (joS A (livS y1 ++ livS y2) B) lv (w + b) 0 true ([]) 0 dp wc rs v' n' F') ∧
      ((0 < b ∧ b ≤ (livS y1 ++ livS y2).length + 1) → ¬ b = (livS y1 ++ livS y2).length + 1 → psQ X n F ow p gs (.int (-9)) ([]) ([]) 0 (A ++ y1 :: y2 :: B) lv (w + b) 0 true ([]) 0 dp wc rs v' n' F')) := by
  refine Cal.of (by decide) (Nat.le_of_ble_eq_true rfl) (ev_fresh fun fr0 => ?_)
  generalize hJe : livS y1 ++ livS y2 = J
  rw [hJe] at hJ
  generalize hQ : (fun (v' : Option Value) (n' : Nat) (F' : ev_H) =>
      (¬ (0 < b ∧ b ≤ J.length + 1) → psQ X n F ow p gs (.int (nI (joS A J B).length)) dr pd pm (joS A J B) lv (w + (J.length + 1)) (b - (J.length + 1)) false ss h dp wc rs v' n' F') ∧
      ((0 < b ∧ b ≤ J.length + 1) → b = J.length + 1 → psQ X n F ow p gs (.int (-9)) ([]) ([]) 0 (joS A J B) lv (w + b) 0 true ([]) 0 dp wc rs v' n' F') ∧
      ((0 < b ∧ b ≤ J.length + 1) → ¬ b = J.length + 1 → psQ X n F ow p gs (.int (-9)) ([]) ([]) 0 (A ++ y1 :: y2 :: B) lv (w + b) 0 true ([]) 0 dp wc rs v' n' F')) = Q
  obtain ⟨r1, mc1, q1⟩ := sl_cell hI.2.2.2.2.1.2.1
  have hlt := ps_lt fr0 hI
  have hl6 := hI.2.2.2.2.1.2.2.2.2.1
  have hll : (A ++ y1 :: y2 :: B).length = A.length + 2 + B.length := by simp; omega
  have s1 : nI (A ++ y1 :: y2 :: B).length - 1 = nI (A.length + 1 + B.length) := by
    rw [hll]
    exact (pk_sub (a := A.length + 2 + B.length) (b := 1) (by omega)).trans (by congr 1; omega)
  have lt1 : nI A.length < nI (A ++ y1 :: y2 :: B).length - 1 := by
    rw [s1]
    exact (nI_ltI (by omega) (by omega)).mpr (by omega)
  -- the end: alive or down
  have alive : ∀ (g n2 : Nat) (G : ev_H) (ow2 : Nat → Nat) (gs2 : List Nat), ¬ (0 < b ∧ b ≤ J.length + 1) → psS p n F ow gs n2 G ow2 gs2 → (psI X G ow2 p gs2 dr pd pm (joS A J B) lv (w + (J.length + 1)) (b - (J.length + 1)) false ss h dp wc rs) → Ev l X M_P_merge 0 0 72 [(0, .ref p), (1, .int (nI A.length)), (2, .ref g)] [] n2 G (ev_mq X Q) := by
    intro g n2 G ow2 gs2 hc hS hG
    obtain ⟨r3, mc3, q3⟩ := sl_cell hG.2.2.2.2.1.2.1
    refine s_P_merge_72 (bc83 := 0) (bs83 := 0) (rc83 := 0) (rs83 := 0) (Q83 := fun _ _ _ => False) hG.1 hG.2.2.2.2.2.1 hG.2.2.2.2.1.1 q3 (by omega) (by omega) (fun _ => sl_size hG.2.2.2.2.1.2.1) (fun _ => ?_) (fun a => absurd rfl a) (fun a => absurd rfl a)
    rw [← hQ]
    exact ⟨fun _ => ⟨rfl, ow2, gs2, hS, hG⟩, fun a => absurd a hc, fun a => absurd a hc⟩
  have downA : ∀ (g n2 : Nat) (G : ev_H) (ow2 : Nat → Nat) (gs2 : List Nat) (sg2 : List Seg), (∀ v' n' F', psQ X n F ow p gs (.int (-9)) ([]) ([]) 0 sg2 lv (w + b) 0 true ([]) 0 dp wc rs v' n' F' → Q v' n' F') → psS p n F ow gs n2 G ow2 gs2 → (psI X G ow2 p gs2 dr pd pm sg2 lv (w + b) 0 true ss h dp wc rs) → Ev l X M_P_merge 0 0 72 [(0, .ref p), (1, .int (nI A.length)), (2, .ref g)] [] n2 G (ev_mq X Q) := by
    intro g n2 G ow2 gs2 sg2 hc hS hG
    obtain ⟨r3, mc3, q3⟩ := sl_cell hG.2.2.2.2.1.2.1
    refine s_P_merge_72 (v96 := 0) (bc83 := 0) (bs83 := 0) (rc83 := 0) (rs83 := 0) hG.1 hG.2.2.2.2.2.1 hG.2.2.2.2.1.1 q3 (by omega) (by omega) (fun a => absurd a (by decide)) (fun a => absurd a (by decide)) (fun _ => c_P_goDown hG) (fun _ => ?_)
    rintro _ n3 G3 ⟨rfl, ow3, gs3, t1, t2⟩
    exact s_P_merge_86 (hc _ _ _ ⟨rfl, ow3, gs3, psS_t fr0 hS t1, t2⟩)
  refine s_P_merge_0 (bc40 := 26) (bs40 := 965) (rc40 := 0) (rs40 := 0) hI.1 hI.2.2.2.2.2.1 hI.2.2.2.2.1.1 q1 (by omega) (by omega) (fun _ a => absurd a (nI_pos (by omega))) (fun _ _ => sl_size hI.2.2.2.2.1.2.1) (fun _ _ _ => c_Sh_joinedFrom hI.2.2.2.2.1 (by rw [hJe]; exact hJ)) (fun _ _ _ => ?_) (fun _ _ a => absurd lt1 a) (fun a => absurd rfl a)
  rw [hJe]
  rintro _ n1 G1 ⟨rfl, hn1, ow1, u1, hS1, hN1, hk1⟩
  refine ev_fresh fun fr1 => ?_
  obtain ⟨t1, t2⟩ := ps_sh (n' := n1) fr0 hI (by omega) u1 hS1 (fun g hg => Or.inl hg) (kp_w hk1 (fun x hx => ⟨hx.1, hx.2.1⟩))
  obtain ⟨rN, mcN, cN⟩ := dl_cell hN1.2.1
  refine s_P_merge_43 (bc57 := 0) (bs57 := 0) (rc57 := 0) (rs57 := 0) t1.1 hN1.1 cN t1.2.2.2.2.2.1 (by omega) (by omega) (dl_size hN1.2.1) (by rw [nI_1]; exact c_Ma_writeBlocks (w := nI w) t1.2.2.2.2.2.1 hb (by omega)) ?_
  rintro _ nn _ ⟨rfl, rfl, rfl⟩
  rw [nI_add]
  have hgn : n ∉ gs := fun q => by
    have h1 := (sh_lt fr0 hI.2.2.2.2.1).2 n q
    omega
  have hw1 := t1.2.2.2.2.2.2.2.2.2.1
  have hgs := hI.2.2.2.2.2.2.2.2.2.2.1
  -- the two are replaced
  have repl : ∀ (w2 b2 : Nat) (st2 : Bool) (rc rs' : Nat), (∀ (G3 : ev_H) (gs3 : List Nat), psS p n F ow gs nn G3 ow1 gs3 → (psI X G3 ow1 p gs3 dr pd pm (joS A J B) lv w2 b2 st2 ss h dp wc rs) → Ev l X M_P_merge 0 0 72 [(0, .ref p), (1, .int (nI A.length)), (2, .ref n)] [] nn G3 (ev_mq X Q)) → Ev l X M_P_merge 0 0 60 [(0, .ref p), (1, .int (nI A.length)), (2, .ref n)] [.int 1] nn (ev_up G1 (p + 10) (maO (nI w2) b2 st2)) (ev_mq X Q) := by
    intro w2 b2 st2 _ _ next
    obtain ⟨m1, m2⟩ := ps_ma (n := nn) (w' := w2) (b' := b2) (st' := st2) t1
    have hN2 : sgI X (ev_up G1 (p + 10) (maO (nI w2) b2 st2)) ow1 n J 0 := sg_kp (C := fun x => 1 < x ∧ x ≠ p + 10) hN1 (kp_u kp_r (hw1 10 (by omega)) (fun z => z.2 rfl) (fun z => by omega)) ⟨by omega, by omega⟩ ⟨by omega, by omega⟩ (fun _ _ _ => rfl)
    refine s_P_merge_60 (bc69 := 0) (bs69 := 0) (rc69 := 0) (rs69 := 0) m1.1 m1.2.2.2.2.1.1 (by omega) (by omega) (fun a => absurd a (by decide)) (fun _ => c_Sh_replaceTwo m1.2.2.2.2.1 hN2 hgn) (fun _ => ?_)
    rintro _ nn G3 ⟨rfl, rfl, gs3, hS3, hg3, hk3⟩
    have hI3 := ps_shI m1 hw1 (fun _ _ _ => rfl) hS3 (fun g hg => (hg3 g hg).elim (fun z => hgs g z) (fun z => by omega)) hk3 (fun i hi z => ⟨by have := hI.2.2.2.2.2.2.2.2.2.2.2.1; omega, by omega⟩)
    refine next G3 gs3 ⟨by omega, u1, fun g hg => (hg3 g hg).elim Or.inl (fun z => Or.inr (by omega)), ?_⟩ hI3
    exact kp_t (kp_t (kp_w hk1 (fun x hx => ⟨hx.1, hx.2.1⟩)) (kp_w m2.2.2.2 (fun x hx => ⟨hx.1, by omega, hx.2.2.1, hx.2.2.2⟩)) (fun x c hx => u1 x (kn fr0 hx))) (kp_w hk3 (fun x hx => ⟨hx.1, by omega⟩)) (fun x c hx => u1 x (kn fr0 hx))
  by_cases hc : 0 < b ∧ b ≤ J.length + 1
  · have ew : wdone b (J.length + 1) = b := if_pos hc
    rw [ew, Nat.sub_self, decide_eq_true hc]
    by_cases he : b = J.length + 1
    · rw [decide_eq_true he]
      refine repl (w + b) 0 true 0 0 (fun G3 gs3 hS3 hI3 => downA n nn G3 ow1 gs3 _ (fun v' n' F' hz => ?_) hS3 hI3)
      rw [← hQ]
      exact ⟨fun a => absurd hc a, fun _ _ => hz, fun _ a => absurd he a⟩
    · rw [decide_eq_false he]
      obtain ⟨m1, m2⟩ := ps_ma (n := nn) (w' := w + b) (b' := 0) (st' := true) t1
      refine s_P_merge_60 (bc69 := 0) (bs69 := 0) (rc69 := 0) (rs69 := 0) (Q69 := fun _ _ _ => False) m1.1 m1.2.2.2.2.1.1 (by omega) (by omega) (fun _ => downA n nn _ ow1 gs _ (fun v' n' F' hz => ?_) (psS_t fr0 t2 m2) m1) (fun a => absurd rfl a) (fun a => absurd rfl a)
      rw [← hQ]
      exact ⟨fun a => absurd hc a, fun _ a => absurd a he, fun _ _ => hz⟩
  · have ew : wdone b (J.length + 1) = J.length + 1 := if_neg hc
    rw [ew, decide_eq_true rfl, decide_eq_false hc]
    exact repl (w + (J.length + 1)) (b - (J.length + 1)) false 0 0 (fun G3 gs3 hS3 hI3 => alive n nn G3 ow1 gs3 hc hS3 hI3)
end ConP2
