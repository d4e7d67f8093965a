/-! more cells: what was known stays so; steps that are made -/
/-- G knows what F knows -/
def ext (F G : ev_H) : Prop := ∀ x c, F x = some c → G x = some c
theorem ext_f {F : ev_H} {n : Nat} {c : ev_C} (h : F n = none) : ext F (ev_up F n c) := fun x d hx => by
  rw [eu_n (fun z => by subst z; rw [hx] at h; cases h)]
  exact hx
theorem ext_t {F G H : ev_H} (h : ext F G) (k : ext G H) : ext F H := fun x c hx => k x c (h x c hx)
section Ext
variable {X : ev_X} {F G : ev_H} {ow ow' : Nat → Nat}
theorem ls_ext {L : Nat} {vs : List Nat} (h : lsI X F ow L vs) (e : ext F G) (w : ∀ x c, F x = some c → ow' x = ow x) : lsI X G ow' L vs := by
  obtain ⟨r, mc, h1, h2⟩ := h
  refine ⟨r, mc, e _ _ h1, ?_⟩
  rcases h2 with h2 | ⟨cap, f, k1, k2, k3⟩
  · exact Or.inl h2
  · exact Or.inr ⟨cap, f, e _ _ k1, by rw [w _ _ k1]; exact k2, k3⟩
theorem dc_ext {v : Nat} {x : Nat × List Int64} (h : dcW F ow v x) (e : ext F G) (w : ∀ x c, F x = some c → ow' x = ow x) : dcW G ow' v x := by
  obtain ⟨t, f, h1, h2, h3, h4, h5, h6⟩ := h
  exact ⟨t, f, e _ _ h1, e _ _ h2, h3, by rw [w _ _ h1]; exact h4, by rw [w _ _ h2]; exact h5, h6⟩
theorem sp_ext {v : Nat} {x : QStep} (h : spW F ow v x) (e : ext F G) (w : ∀ x c, F x = some c → ow' x = ow x) : spW G ow' v x := by
  obtain ⟨t, f, h1, h2, h3, h4, h5, h6⟩ := h
  exact ⟨t, f, e _ _ h1, e _ _ h2, h3, by rw [w _ _ h1]; exact h4, by rw [w _ _ h2]; exact h5, h6⟩
theorem dl_ext {L : Nat} {ds : List Doc} (h : dlI X F ow L ds) (e : ext F G) (w : ∀ x c, F x = some c → ow' x = ow x) : dlI X G ow' L ds := by
  obtain ⟨vs, h1, h2, h3⟩ := h
  exact ⟨vs, ls_ext h1 e w, h2, fun i v x hv hx => dc_ext (h3 i v x hv hx) e w⟩
theorem pl_ext {L : Nat} {ss : List QStep} (h : plI X F ow L ss) (e : ext F G) (w : ∀ x c, F x = some c → ow' x = ow x) : plI X G ow' L ss := by
  obtain ⟨vs, h1, h2, h3⟩ := h
  exact ⟨vs, ls_ext h1 e w, h2, fun i v x hv hx => sp_ext (h3 i v x hv hx) e w⟩
theorem pe_ext {q m : Nat} {ds : List Doc} (h : peI X F ow q ds m) (e : ext F G) (w : ∀ x c, F x = some c → ow' x = ow x) : peI X G ow' q ds m := by
  obtain ⟨h1, h2, h3, h4, h5⟩ := h
  exact ⟨e _ _ h1, dl_ext h2 e w, h3, by rw [w _ _ h1]; exact h4, h5⟩
theorem qs_ext {q h : Nat} {ss : List QStep} {dp : Nat → Nat} (hI : qsI X F ow q ss h dp) (e : ext F G) (w : ∀ x c, F x = some c → ow' x = ow x) : qsI X G ow' q ss h dp := by
  obtain ⟨h1, h2, ⟨f, k1, k2⟩, h4, w0, w1, w2, w3⟩ := hI
  obtain ⟨r, mc, c1⟩ := pl_cell h2
  exact ⟨e _ _ h1, pl_ext h2 e w, ⟨f, e _ _ k1, k2⟩, h4, by rw [w _ _ h1]; exact w0, by rw [w _ _ c1]; exact w1, by rw [w _ _ k1]; exact w2, w3⟩
theorem sg_ext {s m : Nat} {ds : List Doc} (h : sgI X F ow s ds m) (e : ext F G) (w : ∀ x c, F x = some c → ow' x = ow x) : sgI X G ow' s ds m := by
  obtain ⟨h1, h2, h3, h4, h5, h6⟩ := h
  obtain ⟨r, mc, c1⟩ := dl_cell h2
  exact ⟨e _ _ h1, dl_ext h2 e w, h3, by rw [w _ _ h1]; exact h4, by rw [w _ _ c1]; exact h5, h6⟩
theorem sh_ext {s : Nat} {gs : List Nat} {sg : List Seg} {lv : List Doc} (h : shI X F ow s gs sg lv) (e : ext F G) (w : ∀ x c, F x = some c → ow' x = ow x) : shI X G ow' s gs sg lv := by
  obtain ⟨h1, h2, h3, ⟨w0, w1, w2, w3⟩, h5⟩ := h
  obtain ⟨r1, mc1, c1⟩ := sl_cell h2
  obtain ⟨r2, mc2, c2⟩ := dl_cell h3
  exact ⟨e _ _ h1, ⟨ls_ext h2.1 e w, h2.2.1, h2.2.2.1, fun i g y hg hy => sg_ext (h2.2.2.2 i g y hg hy) e w⟩, dl_ext h3 e w, ⟨by rw [w _ _ h1]; exact w0, by rw [w _ _ c1]; exact w1, by rw [w _ _ c2]; exact w2, w3⟩, h5⟩
end Ext
section ConQs3
variable {l : Launch} {X : ev_X} {n : Nat} {F : ev_H} {ow : Nat → Nat} {q h : Nat} {ss : List QStep} {dp : Nat → Nat}
theorem c_Sp_init {v t : Nat} {k k0 : Int32} (h : F v = some (.inr (10, [.int k0, .null]))) : Cal l X M_Sp_init 0 0 [.ref v, .int k, .ref t] n F (ev_void n (ev_up F v (.inr (10, [.int k, .ref t])))) := by
  refine Cal.of (by decide) (Nat.le_of_ble_eq_true rfl) (s_Sp_init_0 h ⟨rfl, rfl, ?_⟩)
  rw [ev_uu]
theorem c_D_init {v t : Nat} {k k0 : Int32} (h : F v = some (.inr (8, [.int k0, .null]))) : Cal l X M_D_init 0 0 [.ref v, .int k, .ref t] n F (ev_void n (ev_up F v (.inr (8, [.int k, .ref t])))) := by
  refine Cal.of (by decide) (Nat.le_of_ble_eq_true rfl) (s_D_init_0 h ⟨rfl, rfl, ?_⟩)
  rw [ev_uu]
/-- a push behind two new cells -/
theorem qs_new {G F' : ev_H} {n' : Nat} {ow1 : Nat → Nat} {v : Option Value} {ss' : List QStep} {h' : Nat} {dp' : Nat → Nat} (fr0 : ∀ x : Nat, n ≤ x → F x = none) (e : ext F G) (w : ∀ x, x < n → ow1 x = ow x) (hq : qsQ X (n + 2) G ow1 q ss' h' dp' v v n' F') : qsQ X n F ow q ss' h' dp' v v n' F' := by
  obtain ⟨-, hn, ow', u1, u2, u3⟩ := hq
  refine ⟨rfl, by omega, ow', fun x hx => (u1 x (by omega)).trans (w x hx), u2, fun x c hx hw => ?_⟩
  have hxn : x < n := Nat.lt_of_not_le fun z => by rw [fr0 x z] at hx; cases hx
  refine u3 x c (e x c hx) (fun z => hw ?_)
  rcases z with z | z | z | z
  · exact Or.inl z
  · exact Or.inr (Or.inl z)
  · exact Or.inr (Or.inr (Or.inl z))
  · rw [w x hxn] at z
    exact Or.inr (Or.inr (Or.inr z))
theorem c_Qs_pushTerm {t : Int64} (hI : qsI X F ow q ss h dp) (h8 : h < 8) (hlen : ss.length < 520) : Cal l X M_Qs_pushTerm 3 783 [.ref q, .long t] n F (qsQ X n F ow q (ss ++ [(3, [t])]) (h + 1) (va_up dp h 0) (some (.int (nI (h + 1))))) := by
  refine Cal.of (by decide) (Nat.le_of_ble_eq_true rfl) (ev_fresh fun fr0 => ?_)
  have n0 : F n = none := fr0 n (Nat.le_refl n)
  have n1 : F (n + 1) = none := fr0 (n + 1) (by omega)
  have z0 : (0 : Int32).toNatClampNeg = 0 := by decide
  refine s_Qs_pushTerm_0 (rc1 := 2) (rs1 := 782) (rc9 := 1) (rs9 := 780) (bc15 := 0) (bs15 := 0) (rc15 := 1) (rs15 := 780) (by omega) (by omega) (by omega) (by omega) (by omega) (by omega) (vp_in_nI (n := 0) (by decide) (by decide)) (c_Sp_init eu_y) ?_
  rintro _ _ _ ⟨rfl, rfl, rfl⟩
  rw [ev_uu, ev_uu, z0]
  have e : ext F (ev_up (ev_up F n (.inl (1, 1, .inr (.inl (vp_updL (fun _ => 0) 0 t))))) (n + 1) (.inr (10, [.int 3, .ref n]))) := ext_t (ext_f n0) (ext_f (by rw [eu_n (by omega)]; exact n1))
  have w : ∀ x, x < n → (fun x => if n ≤ x then 0 else ow x) x = ow x := fun x hx => if_neg (by omega)
  have wk : ∀ x c, F x = some c → (fun x => if n ≤ x then 0 else ow x) x = ow x := fun x c hx => w x (Nat.lt_of_not_le fun z => by rw [fr0 x z] at hx; cases hx)
  have hI2 := qs_ext hI e wk
  have hsp : spW (ev_up (ev_up F n (.inl (1, 1, .inr (.inl (vp_updL (fun _ => 0) 0 t))))) (n + 1) (.inr (10, [.int 3, .ref n]))) (fun x => if n ≤ x then 0 else ow x) (n + 1) (3, [t]) := by
    refine ⟨n, vp_updL (fun _ => 0) 0 t, eu_y, by rw [eu_n (by omega)]; exact eu_y, fun j hj => ?_, if_pos (by omega), if_pos (by omega), Nat.le_refl 3, by simp⟩
    have : j = 0 := by simp at hj; omega
    subst this
    simp [vp_updL, tg]
  refine s_Qs_pushTerm_18 (bc20 := 1) (bs20 := 780) (rc20 := 0) (rs20 := 0) hI2.1 (by omega) (by omega) (c_Qs_push (p := 0) (d := 0) hI2 hsp (by omega) (by omega) (by decide) hlen) ?_
  rintro v2 n2 F2 hq
  have hv := hq.1
  subst hv
  exact s_Qs_pushTerm_23 (qs_new fr0 e w hq)
theorem ext_g {F G : ev_H} {n : Nat} {c : ev_C} (e : ext F G) (h : F n = none) : ext F (ev_up G n c) := fun x d hx => by
  rw [eu_n (fun z => by subst z; rw [hx] at h; cases h)]
  exact e x d hx
theorem c_Qs_makeJoin {k p : Nat} (hI : qsI X F ow q ss h dp) (hk : k ≤ 3) (h1p : 1 ≤ p) (hp : p ≤ h) (hd : mxd dp (h - p) h < 6) (hlen : ss.length < 520) : Cal l X M_Qs_makeJoin 3 783 [.ref q, .int (nI k), .int (nI p)] n F (qsQ X n F ow q (ss ++ [(k, [])]) (h - p + 1) (va_up dp (h - p) (mxd dp (h - p) h + 1)) (some (.int (nI (h - p + 1))))) := by
  refine Cal.of (by decide) (Nat.le_of_ble_eq_true rfl) (ev_fresh fun fr0 => ?_)
  have n0 : F n = none := fr0 n (Nat.le_refl n)
  have n1 : F (n + 1) = none := fr0 (n + 1) (by omega)
  have h8 : h ≤ 8 := hI.2.2.2.1
  refine s_Qs_makeJoin_0 (rc1 := 2) (rs1 := 781) (rc7 := 1) (rs7 := 781) (bc9 := 0) (bs9 := 0) (rc9 := 1) (rs9 := 781) (by omega) (by omega) (by omega) (by omega) (by omega) (by omega) (c_Sp_init (by rw [eu_n (by omega)]; exact eu_y)) ?_
  rintro _ _ _ ⟨rfl, rfl, rfl⟩
  have e : ext F (ev_up (ev_up (ev_up F n (.inr (10, [.int 0, .null]))) (n + 1) (.inl (1, 0, .inr (.inl (fun _ => 0))))) n (.inr (10, [.int (nI k), .ref (n + 1)]))) := ext_g (ext_g (ext_f n0) n1) n0
  have w : ∀ x, x < n → (fun x => if n ≤ x then 0 else ow x) x = ow x := fun x hx => if_neg (by omega)
  have wk : ∀ x c, F x = some c → (fun x => if n ≤ x then 0 else ow x) x = ow x := fun x c hx => w x (Nat.lt_of_not_le fun z => by rw [fr0 x z] at hx; cases hx)
  have hI2 := qs_ext hI e wk
  have hsp : spW (ev_up (ev_up (ev_up F n (.inr (10, [.int 0, .null]))) (n + 1) (.inl (1, 0, .inr (.inl (fun _ => 0))))) n (.inr (10, [.int (nI k), .ref (n + 1)]))) (fun x => if n ≤ x then 0 else ow x) n (k, []) := by
    refine ⟨n + 1, fun _ => 0, eu_y, by rw [eu_n (by omega)]; exact eu_y, fun j hj => absurd hj (Nat.not_lt_zero _), if_pos (by omega), if_pos (by omega), hk, Nat.zero_le _⟩
  refine s_Qs_makeJoin_12 (bc20 := 1) (bs20 := 780) (rc20 := 0) (rs20 := 0) hI2.1 hI2.1 (by omega) (by omega) (c_Qs_deepest hI2 hp) (by rw [nI_1]; exact c_Qs_push (d := mxd dp (h - p) h + 1) hI2 hsp hp (by omega) (by omega) hlen) ?_
  rintro v2 n2 F2 hq
  have hv := hq.1
  subst hv
  exact s_Qs_makeJoin_23 (qs_new fr0 e w hq)
end ConQs3
