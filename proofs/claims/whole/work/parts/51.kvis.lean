/-! ===== who lies below: finished ones have a last ===== -/
def abv (D : zD) (w v : Nat) : Bool := match D.2.1 w, D.2.1 v, D.2.2.1 w with
  | some a, some k, some z => decide (a ≤ k) && decide (k ≤ z)
  | _, _, _ => false
def snc (D : zD) (r v : Nat) : Bool := match D.2.1 v with
  | some k => decide (r ≤ k)
  | none => false
def zJ (D : zD) : Prop := ∀ c z, D.2.2.1 c = some z → ∃ k, D.2.1 c = some k ∧ k ≤ z ∧ z < D.1
theorem abv_v {D : zD} {w v a k z : Nat} (h1 : D.2.1 w = some a) (h2 : D.2.1 v = some k) (h3 : D.2.2.1 w = some z) : abv D w v = (decide (a ≤ k) && decide (k ≤ z)) := by
  unfold abv; rw [h1, h2, h3]
theorem abv_n1 {D : zD} {w v : Nat} (h : D.2.1 w = none) : abv D w v = false := by unfold abv; rw [h]
theorem abv_n2 {D : zD} {w v : Nat} (h : D.2.1 v = none) : abv D w v = false := by
  unfold abv; rw [h]
  cases D.2.1 w <;> rfl
theorem snc_v {D : zD} {r v k : Nat} (h : D.2.1 v = some k) : snc D r v = decide (r ≤ k) := by unfold snc; rw [h]
theorem snc_n {D : zD} {r v : Nat} (h : D.2.1 v = none) : snc D r v = false := by unfold snc; rw [h]
theorem zJ_vP {G : zG} {S : Nat → Prop} {D D' : zD} (hJ : zJ D) (h : vP G S D D') : zJ D' := by
  obtain ⟨a1, a2, a3, a4, a5, a6⟩ := h
  intro c z hz
  cases hc : D.2.1 c with
  | some k =>
    obtain ⟨h1, h2⟩ := a3 c k hc
    rw [h2] at hz
    obtain ⟨k2, h3, h4, h5⟩ := hJ c z hz
    rw [hc] at h3
    have ek : k = k2 := Option.some.inj h3
    exact ⟨k, h1, by omega, by omega⟩
  | none =>
    cases hc2 : D'.2.1 c with
    | some k =>
      obtain ⟨-, ⟨z2, h2, h3, h4⟩, -⟩ := a4 c k hc hc2
      rw [h2] at hz
      have ez : z2 = z := Option.some.inj hz
      exact ⟨k, rfl, by omega, by omega⟩
    | none =>
      rw [a5 c hc2] at hz
      obtain ⟨k2, h3, -⟩ := hJ c z hz
      rw [hc] at h3
      cases h3
theorem abv_vP {G : zG} {S : Nat → Prop} {D D' : zD} (hJ : zJ D) (h : vP G S D D') {c : Nat} (hc : (D.2.2.1 c).isSome) (v : Nat) : abv D' c v = abv D c v := by
  obtain ⟨a1, a2, a3, a4, a5, a6⟩ := h
  obtain ⟨z, hz⟩ := Option.isSome_iff_exists.mp hc
  obtain ⟨k, h1, h2, h3⟩ := hJ c z hz
  obtain ⟨b1, b2⟩ := a3 c k h1
  cases hv : D.2.1 v with
  | some q => rw [abv_v b1 (a3 v q hv).1 (b2.trans hz), abv_v h1 hv hz]
  | none =>
    rw [abv_n2 hv]
    cases hv2 : D'.2.1 v with
    | none => rw [abv_n2 hv2]
    | some q =>
      have := (a4 v q hv hv2).1
      rw [abv_v b1 hv2 (b2.trans hz), decide_eq_false (show ¬ q ≤ z by omega), Bool.and_false]
/-! ===== the class' walk ===== -/
def sK (x : nz_S) (D : zD) : Prop := x.1 11 8 = nI D.1 ∧ (∀ c, c < 12 → x.1 12 c = oi (D.2.1 c)) ∧ (∀ k, k < D.1 → x.1 13 k = nI (D.2.2.2 k)) ∧ (∀ c, c < 12 → (D.2.2.1 c).isSome → x.1 14 c = bm (abv D c))
/-- only the walk's own cells change -/
def fW (x y : nz_S) : Prop := (∀ c, c < 11 ∨ 14 < c → y.1 c = x.1 c) ∧ y.1 11 9 = x.1 11 9 ∧ y.1 11 10 = x.1 11 10 ∧ y.2 = x.2
theorem fW.rf (x : nz_S) : fW x x := ⟨fun _ _ => rfl, rfl, rfl, rfl⟩
theorem fW.tr {x y z : nz_S} (h : fW x y) (h2 : fW y z) : fW x z := ⟨fun c hc => (h2.1 c hc).trans (h.1 c hc), h2.2.1.trans h.2.1, h2.2.2.1.trans h.2.2.1, h2.2.2.2.trans h.2.2.2⟩
theorem fW.K {x y : nz_S} (h : fW x y) {g : Nat} {G : zG} (hg : g + 3 < 11) (hk : zK x g G) : zK y g G := zK_eq hk (fun c hc => h.1 c (by omega))
theorem fW_put (x : nz_S) (c i : Nat) (v : Int32) (h : 12 ≤ c ∧ c ≤ 14 ∨ c = 11 ∧ i = 8) : fW x (nz_put x c i v) := by
  refine ⟨fun k hk => by rw [z_put1, if_neg (by omega)], ?_, ?_, rfl⟩
  · rw [z_put1]
    by_cases hc : 11 = c
    · rw [if_pos hc, z_upd, if_neg (by omega), hc]
    · rw [if_neg hc]
  · rw [z_put1]
    by_cases hc : 11 = c
    · rw [if_pos hc, z_upd, if_neg (by omega), hc]
    · rw [if_neg hc]
theorem snc_add {G : zG} {S : Nat → Prop} {E E' : zD} (h : vP G S E E') {r : Nat} (hr : r ≤ E.1) : bm (snc E r) ||| bm (snc E' E.1) = bm (snc E' r) := by
  rw [bm_or]
  refine bm_ext (fun v _ => ?_)
  obtain ⟨a1, a2, a3, a4, a5, a6⟩ := h
  cases hv : E.2.1 v with
  | some k =>
    have hk := (a3 v k hv).1
    rw [snc_v hv, snc_v hk, snc_v hk]
    by_cases hq : E.1 ≤ k
    · rw [decide_eq_true hq, decide_eq_true (show r ≤ k by omega)]; rfl
    · rw [decide_eq_false hq, Bool.or_false]
  | none =>
    rw [snc_n hv, Bool.false_or]
    cases hv2 : E'.2.1 v with
    | none => rw [snc_n hv2, snc_n hv2]
    | some k =>
      have := (a4 v k hv hv2).1
      rw [snc_v hv2, snc_v hv2, decide_eq_true this, decide_eq_true (show r ≤ k by omega)]
theorem oi9 {o : Option Nat} (h : o = none) : oi o = -9 := by rw [h]; rfl
theorem kHO {x : nz_S} {D : zD} (h : sK x D) {t : Nat} (ht : t < 12) (hI : ∀ k, D.2.1 t = some k → k < 100) : f_X5_hasOrder (nI t) x = some (if (D.2.1 t).isNone then 0 else 1, x) := by
  simp only [f_X5_hasOrder, z_in ht (by omega), z_chk, z_N (show t < 2147483648 by omega), h.2.1 t ht]
  cases hv : D.2.1 t with
  | none => simp only [oi_none, if_true, Option.isNone_none]
  | some k =>
    have := hI k hv
    simp only [oi_some, z_m9 (show k < 2147483648 by omega), if_false, Option.isNone_some, Bool.false_eq_true]
theorem kVis_55 {g : Nat} {G : zG} (hg : g + 3 < 11) (hV : zV G) {b lev r0 d : Nat} (hb : b < G.1) (IH : ∀ (t : Nat) (D : zD) (x : nz_S) (lv : Nat), zI G D → zJ D → sK x D → zK x g G → t < G.1 → D.2.1 t = none → G.1 - D.1 ≤ d → lv ≤ D.1 → ∃ y, fv_X5_visit g d (nI t) (nI lv) x = some (bm (snc (vis G d t D) D.1), y) ∧ sK y (vis G d t D) ∧ fW x y) (K : Int32 → Int32 → nz_S → Option (Int32 × nz_S)) : ∀ r i fu (E : zD) (x : nz_S), i + r = (G.2.2 b).length → r < fu → zI G E → zJ E → sK x E → zK x g G → G.1 - E.1 ≤ d → lev + 1 ≤ E.1 → r0 ≤ E.1 → ∃ y, f_X5_visit_55 (fv_X5_visit g d) g (nI b) (nI lev) fu (bm (snc E r0)) (nI i) x K = K (bm (snc (((G.2.2 b).drop i).foldl (stp G d) E) r0)) (nI (G.2.2 b).length) y ∧ sK y (((G.2.2 b).drop i).foldl (stp G d) E) ∧ fW x y
  | 0, i, fu + 1, E, x, e, _, hI, hJ, hs, hk, hd, hl, hr => by
    have hn := hV.1
    have hlb := hV.l hb
    have : i = (G.2.2 b).length := by omega
    subst this
    refine ⟨x, ?_, ?_, fW.rf x⟩
    · rw [f_X5_visit_55]
      simp only [z_in (show b < 12 by omega) (by omega), z_chk, z_N (show b < 2147483648 by omega), hk.c hb]
      rw [if_pos ((z_le (by omega) (by omega)).mpr (Nat.le_refl _)), List.drop_length]
      rfl
    · rw [List.drop_length]; exact hs
  | r + 1, i, fu + 1, E, x, e, hf, hI, hJ, hs, hk, hd, hl, hr => by
    have hn := hV.1
    have hlb := hV.l hb
    have hil : i < (G.2.2 b).length := by omega
    have ht := hV.t hb hil
    have hdrop : (G.2.2 b).drop i = (G.2.2 b).getD i 0 :: (G.2.2 b).drop (i + 1) := by
      rw [List.drop_eq_getElem_cons hil, List.getD_eq_getElem?_getD, List.getElem?_eq_getElem hil]
      rfl
    rw [hdrop, List.foldl_cons]
    obtain ⟨t, htt⟩ : ∃ t, t = (G.2.2 b).getD i 0 := ⟨_, rfl⟩
    rw [← htt] at ht ⊢
    have hle := hI.le
    have hbase : f_X5_visit_55 (fv_X5_visit g d) g (nI b) (nI lev) (fu + 1) (bm (snc E r0)) (nI i) x K = (if (if (E.2.1 t).isNone then (0 : Int32) else 1) = 0 then nz_bnd (fv_X5_visit g d (nI t) (nI (lev + 1)) x) fun r20 x21 => f_X5_visit_55 (fv_X5_visit g d) g (nI b) (nI lev) fu (bm (snc E r0) ||| r20) (nI (i + 1)) x21 K else f_X5_visit_55 (fv_X5_visit g d) g (nI b) (nI lev) fu (bm (snc E r0)) (nI (i + 1)) x K) := by
      rw [f_X5_visit_55]
      simp only [z_in (show b < 12 by omega) (by omega), z_chk, z_N (show b < 2147483648 by omega), hk.c hb]
      rw [if_neg (by rw [z_le (by omega) (by omega)]; omega), kTG hk hV hb hil, ← htt, z_bnd, kHO hs (show t < 12 by omega) (fun k hk2 => by have := (hI.1 t k hk2).2.1; omega), z_bnd]
      simp only [nI_1]
    rw [hbase]
    cases hv : E.2.1 t with
    | none =>
      rw [stp_n hv]
      obtain ⟨y, y1, y2, y3⟩ := IH t E x (lev + 1) hI hJ hs hk ht hv hd hl
      obtain ⟨p1, p2, p3, p4⟩ := vis_P hV d t E hI ht hv hd
      obtain ⟨y', s1, s2, s3⟩ := kVis_55 hg hV (lev := lev) (r0 := r0) hb IH K r (i + 1) fu (vis G d t E) y (by omega) (by omega) p1.1 (zJ_vP hJ p1) y2 (y3.K hg hk) (by omega) (by omega) (by omega)
      refine ⟨y', ?_, s2, y3.tr s3⟩
      simp only [Option.isNone_none, if_true]
      rw [y1, z_bnd, snc_add p1 hr]
      exact s1
    | some k =>
      rw [stp_y hv]
      obtain ⟨y', s1, s2, s3⟩ := kVis_55 hg hV (lev := lev) (r0 := r0) hb IH K r (i + 1) fu E x (by omega) (by omega) hI hJ hs hk hd hl hr
      refine ⟨y', ?_, s2, s3⟩
      simp only [Option.isNone_some, Bool.false_eq_true, if_false, one0]
      exact s1
theorem dIn_I {G : zG} {D : zD} (hI : zI G D) {b : Nat} (hb : b < G.1) (hn : D.2.1 b = none) : zI G (dIn b D) := by
  refine ⟨fun c k e => ?_, fun k hk => ?_⟩
  · by_cases hc : c = b
    · subst hc
      have e : up D.2.1 c (some D.1) c = some k := e
      rw [up_s] at e
      have ek : D.1 = k := Option.some.inj e
      refine ⟨hb, by show k < D.1 + 1; omega, ?_⟩
      show up D.2.2.2 D.1 c k = c
      rw [← ek, up_s]
    · have e : up D.2.1 b (some D.1) c = some k := e
      rw [up_n _ _ hc] at e
      obtain ⟨h1, h2, h3⟩ := hI.1 c k e
      refine ⟨h1, by show k < D.1 + 1; omega, ?_⟩
      show up D.2.2.2 D.1 b k = c
      rw [up_n _ _ (by omega)]; exact h3
  · have hk : k < D.1 + 1 := hk
    show up D.2.1 b (some D.1) (up D.2.2.2 D.1 b k) = some k
    by_cases hk2 : k = D.1
    · subst hk2
      rw [up_s, up_s]
    · have h1 := hI.2 k (by omega)
      rw [up_n _ _ hk2, up_n _ _ (by intro e; rw [e, hn] at h1; cases h1)]
      exact h1
theorem dIn_J {D : zD} (hJ : zJ D) {b : Nat} (hn : D.2.1 b = none) : zJ (dIn b D) := by
  intro c z hz
  have hz : D.2.2.1 c = some z := hz
  obtain ⟨k, h1, h2, h3⟩ := hJ c z hz
  refine ⟨k, ?_, h2, by show z < D.1 + 1; omega⟩
  show up D.2.1 b (some D.1) c = some k
  rw [up_n _ _ (by intro e; rw [e, hn] at h1; cases h1)]
  exact h1
theorem dIn_abv {D : zD} (hJ : zJ D) {b : Nat} (hn : D.2.1 b = none) {c : Nat} (hc : (D.2.2.1 c).isSome) (v : Nat) : abv (dIn b D) c v = abv D c v := by
  obtain ⟨z, hz⟩ := Option.isSome_iff_exists.mp hc
  obtain ⟨k, h1, h2, h3⟩ := hJ c z hz
  have hcb : c ≠ b := by intro e; rw [e, hn] at h1; cases h1
  have h1' : (dIn b D).2.1 c = some k := by show up D.2.1 b (some D.1) c = _; rw [up_n _ _ hcb]; exact h1
  by_cases hvb : v = b
  · subst hvb
    have hv' : (dIn v D).2.1 v = some D.1 := by show up D.2.1 v (some D.1) v = _; rw [up_s]
    rw [abv_n2 hn, abv_v h1' hv' hz, decide_eq_false (show ¬ D.1 ≤ z by omega), Bool.and_false]
  · have hv' : (dIn b D).2.1 v = D.2.1 v := by show up D.2.1 b (some D.1) v = _; rw [up_n _ _ hvb]
    cases hv : D.2.1 v with
    | none => rw [abv_n2 hv, abv_n2 (hv'.trans hv)]
    | some q => rw [abv_v h1 hv hz, abv_v h1' (hv'.trans hv) hz]
