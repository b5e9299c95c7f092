/-! ===== sets filled one by one ===== -/
def pf (P : Nat → Bool) (k : Nat) : Nat → Bool := fun y => decide (y < k) && P y
theorem pf_0 (P : Nat → Bool) : bm (pf P 0) = 0 := bm_0.mpr (fun k _ => by simp [pf])
theorem pf_yes {P : Nat → Bool} {k : Nat} (h : P k = true) (hk : k < 12) : bm (pf P k) ||| ((1 : Int32) <<< (nI k &&& 31)) = bm (pf P (k + 1)) := by
  rw [bm_one k hk, bm_or]
  refine bm_ext (fun y _ => ?_)
  unfold pf
  by_cases hy : y = k
  · rw [hy, h]; simp
  · by_cases h2 : y < k
    · rw [decide_eq_true h2, decide_eq_true (show y < k + 1 by omega), decide_eq_false hy, Bool.or_false]
    · rw [decide_eq_false h2, decide_eq_false (show ¬ y < k + 1 by omega), decide_eq_false hy]; rfl
theorem pf_no {P : Nat → Bool} {k : Nat} (h : P k = false) : bm (pf P k) = bm (pf P (k + 1)) := by
  refine bm_ext (fun y _ => ?_)
  unfold pf
  by_cases hy : y = k
  · rw [hy, h]; simp
  · by_cases h2 : y < k
    · rw [decide_eq_true h2, decide_eq_true (show y < k + 1 by omega)]
    · rw [decide_eq_false h2, decide_eq_false (show ¬ y < k + 1 by omega)]
theorem pf_no0 {P : Nat → Bool} {k : Nat} (h : P k = false) : bm (pf P k) ||| 0 = bm (pf P (k + 1)) := by rw [bm_or0, pf_no h]
theorem pf_n {P : Nat → Bool} {n : Nat} (h : ∀ y, y < 12 → P y = true → y < n) : bm (pf P n) = bm P := by
  refine bm_ext (fun y hy => ?_)
  unfold pf
  cases hp : P y with
  | false => simp
  | true => rw [decide_eq_true (h y hy hp)]; rfl
theorem mHas (s : Nat → Bool) {k : Nat} (hk : k < 12) (x : nz_S) : f_X8_has (bm s) (nI k) x = some (if s k then 1 else 0, x) := by
  unfold f_X8_has
  rw [bit_bm s hk]
  cases s k <;> rfl
/-! ===== the reference: above, entries, backs ===== -/
theorem mAbv {x : nz_S} {G : zG} {D : zD} (hV : zV G) (h : mW x D) (hF : zF G D) {w v : Nat} (hw : w < 12) (hv : v < 12) : f_X8_isAbove (nI w) (nI v) x = some (if abv D w v then 1 else 0, x) := by
  have h12 := hV.1
  have hle := hF.I.le
  obtain ⟨h1, h2, h3⟩ := h
  unfold f_X8_isAbove
  simp only [z_in hw (by omega), z_chk, z_N (show w < 2147483648 by omega), z_in hv (by omega), z_N (show v < 2147483648 by omega), h2 w hw, h2 v hv, h3 w hw]
  cases ew : D.2.1 w with
  | none => rw [oi_none, if_pos rfl, abv_n1 ew]; rfl
  | some a =>
    have ha := (hF.I.1 w a ew).2.1
    rw [oi_some, if_neg (z_m9 (by omega))]
    cases ev : D.2.1 v with
    | none => rw [oi_none, if_pos rfl, abv_n2 ev]; rfl
    | some k =>
      have hk := (hF.I.1 v k ev).2.1
      obtain ⟨z, ez, hz1, hz2⟩ := hF.la w a ew
      rw [oi_some, if_neg (z_m9 (by omega)), ez, oi_some, in_eqI, z_bnd]
      simp only [i64_toInt, nI_toInt (show a < 2147483648 by omega), nI_toInt (show k < 2147483648 by omega), nI_toInt (show z < 2147483648 by omega)]
      rw [abv_v ew ev ez]
      by_cases hc : a ≤ k ∧ k ≤ z
      · have hc' : (a : Int) ≤ (k : Int) ∧ (k : Int) ≤ (z : Int) := by omega
        rw [if_pos hc', if_neg one0, decide_eq_true hc.1, decide_eq_true hc.2]; rfl
      · have hc' : ¬ ((a : Int) ≤ (k : Int) ∧ (k : Int) ≤ (z : Int)) := by omega
        rw [if_neg hc', if_pos rfl]
        have : (decide (a ≤ k) && decide (k ≤ z)) = false := by
          rw [Bool.and_eq_false_iff, decide_eq_false_iff_not, decide_eq_false_iff_not]; omega
        rw [this]; rfl
def fE (x y : nz_S) : Prop := (∀ c, c < 15 ∨ 17 < c → y.1 c = x.1 c) ∧ y.2 = x.2
theorem fE.rf (x : nz_S) : fE x x := ⟨fun _ _ => rfl, rfl⟩
theorem fE.tr {x y z : nz_S} (h : fE x y) (h2 : fE y z) : fE x z := ⟨fun c hc => (h2.1 c hc).trans (h.1 c hc), h2.2.trans h.2⟩
theorem fE_put (x : nz_S) (c i : Nat) (v : Int32) (h : 15 ≤ c ∧ c ≤ 17) : fE x (nz_put x c i v) := ⟨fun k hk => by rw [z_put1, if_neg (by omega)], rfl⟩
theorem fE.M {x y : nz_S} (h : fE x y) {q : Nat} {G : zG} (hq : q = 3 ∨ q = 4) (hm : zM x q G) : zM y q G := zM_eq hm (h.1 q (by omega))
theorem fE.W {x y : nz_S} (h : fE x y) {D : zD} (hm : mW x D) : mW y D := by
  unfold mW
  rw [h.1 0 (by omega), h.1 11 (by omega), h.1 12 (by omega)]
  exact hm
theorem mLay_32 {q : Nat} {G : zG} (hq : q = 3 ∨ q = 4) (hV : zV G) {D : zD} (hF : zF G D) {c : Nat} (hc : c < 12) (K : Int32 → nz_S → Option (Unit × nz_S)) : ∀ r k fu (x : nz_S), k + r = G.1 → r < fu → mW x D → zM x q G → x.1 17 c = bm (pf (en0 G D c) k) → ∃ y, f_X8_layEntries_32 q (nI c) fu (nI k) x K = K (nI G.1) y ∧ y.1 17 c = bm (pf (en0 G D c) G.1) ∧ (∀ d, d ≠ 17 → y.1 d = x.1 d) ∧ (∀ i, i ≠ c → y.1 17 i = x.1 17 i) ∧ y.2 = x.2
  | 0, k, fu + 1, x, e, _, hw, hz, hx => by
    have h12 := hV.1
    have : k = G.1 := by omega
    subst this
    have e0 : ((0 : Int32)).toNatClampNeg = 0 := rfl
    refine ⟨x, ?_, hx, fun _ _ => rfl, fun _ _ => rfl, rfl⟩
    rw [f_X8_layEntries_32]
    simp only [show nz_in 0 61 = true from rfl, z_chk, e0, hz.n]
    rw [if_pos ((z_le (by omega) (by omega)).mpr (Nat.le_refl _))]
  | r + 1, k, fu + 1, x, e, hf, hw, hz, hx => by
    have h12 := hV.1
    have e0 : ((0 : Int32)).toNatClampNeg = 0 := rfl
    have go : ∀ v : Int32, v = bm (pf (en0 G D c) (k + 1)) → ∃ y, f_X8_layEntries_32 q (nI c) fu (nI (k + 1)) (nz_put x 17 c v) K = K (nI G.1) y ∧ y.1 17 c = bm (pf (en0 G D c) G.1) ∧ (∀ d, d ≠ 17 → y.1 d = x.1 d) ∧ (∀ i, i ≠ c → y.1 17 i = x.1 17 i) ∧ y.2 = x.2 := by
      intro v hv
      have f := fE_put x 17 c v (by omega)
      obtain ⟨y, y1, y2, y3, y4, y5⟩ := mLay_32 hq hV hF hc K r (k + 1) fu (nz_put x 17 c v) (by omega) (by omega) (f.W hw) (f.M hq hz) (by rw [z_put1, if_pos rfl, z_upd, if_pos rfl]; exact hv)
      refine ⟨y, y1, y2, fun d hd => ?_, fun i hi => ?_, y5⟩
      · rw [y3 d hd, z_put1, if_neg hd]
      · rw [y4 i hi, z_put1, if_pos rfl, z_upd, if_neg hi]
    rw [f_X8_layEntries_32]
    simp only [show nz_in 0 61 = true from rfl, z_chk, e0, hz.n]
    rw [if_neg (by rw [z_le (by omega) (by omega)]; omega)]
    simp only [z_in hc (by omega), z_in (show k < 12 by omega) (by omega), z_N (show c < 2147483648 by omega), z_N (show k < 2147483648 by omega), z_chk, hw.2.1 k (by omega), hx, nI_1]
    cases ev : D.2.1 k with
    | none =>
      rw [oi_none, if_pos rfl]
      exact go _ (pf_no0 (by unfold en0; rw [od_no.mpr ev]; rfl))
    | some a =>
      have ha := (hF.I.1 k a ev).2.1
      have hle := hF.I.le
      rw [oi_some, if_neg (z_m9 (by omega)), mGoes hz hV (show k < G.1 by omega) (by omega), z_bnd]
      cases eg : gGo G k c with
      | false =>
        simp only [Bool.false_eq_true, if_false, if_true]
        exact go _ (pf_no0 (by unfold en0; rw [eg, Bool.and_false]; rfl))
      | true =>
        simp only [if_true, one0, if_false]
        rw [mAbv hV hw hF hc (show k < 12 by omega), z_bnd]
        cases ea : abv D c k with
        | false =>
          simp only [Bool.false_eq_true, if_false, if_true]
          exact go _ (pf_yes (by unfold en0; rw [eg, ea, od_ex.mpr ⟨a, ev⟩]; rfl) (by omega))
        | true =>
          simp only [if_true, one0, if_false]
          exact go _ (pf_no0 (by unfold en0; rw [ea]; simp))
theorem en0_lt {G : zG} {D : zD} (hF : zF G D) (c y : Nat) (h : en0 G D c y = true) : y < G.1 := by
  unfold en0 at h
  rw [Bool.and_eq_true, Bool.and_eq_true] at h
  exact hF.lt h.1.1
theorem bk0_lt {G : zG} {D : zD} (hF : zF G D) (c y : Nat) (h : bk0 G D c y = true) : y < G.1 := by
  unfold bk0 at h
  rw [Bool.and_eq_true, Bool.and_eq_true] at h
  exact hF.lt h.1.1
theorem mLay_2 {q : Nat} {G : zG} (hq : q = 3 ∨ q = 4) (hV : zV G) {D : zD} (hF : zF G D) (K : Int32 → nz_S → Option (Unit × nz_S)) : ∀ r j fu (x : nz_S), j + r = 12 → r < fu → mW x D → zM x q G → (∀ c, c < j → x.1 17 c = bm (en0 G D c) ∧ x.1 15 c = -9 ∧ x.1 16 c = 0) → ∃ y, f_X8_layEntries_2 q fu (nI j) x K = K (nI 12) y ∧ (∀ c, c < 12 → y.1 17 c = bm (en0 G D c) ∧ y.1 15 c = -9 ∧ y.1 16 c = 0) ∧ fE x y
  | 0, j, fu + 1, x, e, _, hw, hz, h => by
    have : j = 12 := by omega
    subst this
    exact ⟨x, by rw [f_X8_layEntries_2, if_pos ge12], h, fE.rf x⟩
  | r + 1, j, fu + 1, x, e, hf, hw, hz, h => by
    obtain ⟨x7, hx7⟩ : ∃ x7, x7 = nz_put (nz_put (nz_put x 17 j 0) 15 j (-9)) 16 j 0 := ⟨_, rfl⟩
    have f7 : fE x x7 := by
      rw [hx7]
      exact ((fE_put x 17 j _ (by omega)).tr (fE_put _ 15 j _ (by omega))).tr (fE_put _ 16 j _ (by omega))
    have g17 : ∀ i, x7.1 17 i = if i = j then 0 else x.1 17 i := fun i => by
      rw [hx7, z_put1, if_neg (by omega), z_put1, if_neg (by omega), z_put1, if_pos rfl, z_upd]
    have g15 : ∀ i, x7.1 15 i = if i = j then -9 else x.1 15 i := fun i => by
      have t : (nz_put x 17 j 0).1 15 = x.1 15 := by rw [z_put1, if_neg (by omega)]
      rw [hx7, z_put1, if_neg (by omega), z_put1, if_pos rfl, z_upd, t]
    have g16 : ∀ i, x7.1 16 i = if i = j then 0 else x.1 16 i := fun i => by
      have t : (nz_put (nz_put x 17 j 0) 15 j (-9)).1 16 = x.1 16 := by rw [z_put1, if_neg (by omega), z_put1, if_neg (by omega)]
      rw [hx7, z_put1, if_pos rfl, z_upd, t]
    obtain ⟨y, y1, y2, y3, y4, y5⟩ := mLay_32 hq hV hF (c := j) (by omega) (fun u34 x33 => f_X8_layEntries_2 q fu (nI j + 1) x33 K) G.1 0 nz_F x7 (by omega) (by have := hV.1; unfold nz_F; omega) (f7.W hw) (f7.M hq hz) (by rw [g17, if_pos rfl, pf_0])
    rw [nI_0] at y1
    have fy : fE x y := f7.tr ⟨fun c hc => y3 c (by omega), y5⟩
    obtain ⟨y', s1, s2, s3⟩ := mLay_2 hq hV hF K r (j + 1) fu y (by omega) (by omega) (fy.W hw) (fy.M hq hz) (fun c hc => by
      by_cases hcj : c = j
      · subst hcj
        refine ⟨by rw [y2]; exact pf_n (fun v _ hv => en0_lt hF c v hv), ?_, ?_⟩
        · rw [y3 15 (by omega), g15, if_pos rfl]
        · rw [y3 16 (by omega), g16, if_pos rfl]
      · obtain ⟨q1, q2, q3⟩ := h c (by omega)
        refine ⟨?_, ?_, ?_⟩
        · rw [y4 c hcj, g17, if_neg hcj]; exact q1
        · rw [y3 15 (by omega), g15, if_neg hcj]; exact q2
        · rw [y3 16 (by omega), g16, if_neg hcj]; exact q3)
    refine ⟨y', ?_, s2, fy.tr s3⟩
    rw [f_X8_layEntries_2, if_neg (lt12 (by omega))]
    simp only [z_in (show j < 12 by omega) (by omega), z_chk, z_N (show j < 2147483648 by omega)]
    rw [← hx7]
    refine y1.trans ?_
    rw [nI_1]
    exact s1
theorem mLay {q : Nat} {G : zG} (hq : q = 3 ∨ q = 4) (hV : zV G) {D : zD} (hF : zF G D) {x : nz_S} (hw : mW x D) (hz : zM x q G) : ∃ y, f_X8_layEntries q x = some ((), y) ∧ (∀ c, c < 12 → y.1 17 c = bm (en0 G D c) ∧ y.1 15 c = -9 ∧ y.1 16 c = 0) ∧ fE x y := by
  obtain ⟨y, y1, y2, y3⟩ := mLay_2 hq hV hF (fun u37 x36 => some ((), x36)) 12 0 nz_F x (by omega) (by unfold nz_F; omega) hw hz (fun c hc => absurd hc (Nat.not_lt_zero c))
  rw [nI_0] at y1
  exact ⟨y, y1, y2, y3⟩
theorem mBacks_5 {q : Nat} {G : zG} (hV : zV G) {D : zD} (hF : zF G D) {c : Nat} (hc : c < 12) {x : nz_S} (hw : mW x D) (hz : zM x q G) (K : Int32 → Int32 → nz_S → Option (Int32 × nz_S)) : ∀ r k fu, k + r = G.1 → r < fu → f_X8_backs_5 q (nI c) fu (bm (pf (bk0 G D c) k)) (nI k) x K = K (bm (pf (bk0 G D c) G.1)) (nI G.1) x
  | 0, k, fu + 1, e, _ => by
    have h12 := hV.1
    have : k = G.1 := by omega
    subst this
    have e0 : ((0 : Int32)).toNatClampNeg = 0 := rfl
    rw [f_X8_backs_5]
    simp only [show nz_in 0 61 = true from rfl, z_chk, e0, hz.n]
    rw [if_pos ((z_le (by omega) (by omega)).mpr (Nat.le_refl _))]
  | r + 1, k, fu + 1, e, hf => by
    have h12 := hV.1
    have e0 : ((0 : Int32)).toNatClampNeg = 0 := rfl
    have ih := mBacks_5 hV hF hc hw hz K r (k + 1) fu (by omega) (by omega)
    rw [f_X8_backs_5]
    simp only [show nz_in 0 61 = true from rfl, z_chk, e0, hz.n]
    rw [if_neg (by rw [z_le (by omega) (by omega)]; omega)]
    simp only [z_in (show k < 12 by omega) (by omega), z_N (show k < 2147483648 by omega), z_chk, hw.2.1 k (by omega), nI_1]
    cases ev : D.2.1 k with
    | none =>
      rw [oi_none, if_pos rfl, pf_no0 (by unfold bk0; rw [od_no.mpr ev]; rfl)]
      exact ih
    | some a =>
      have ha := (hF.I.1 k a ev).2.1
      have hle := hF.I.le
      rw [oi_some, if_neg (z_m9 (by omega)), mGoes hz hV (show k < G.1 by omega) (by omega), z_bnd]
      cases eg : gGo G k c with
      | false =>
        simp only [Bool.false_eq_true, if_false, if_true]
        rw [pf_no0 (by unfold bk0; rw [eg, Bool.and_false]; rfl)]
        exact ih
      | true =>
        simp only [if_true, one0, if_false]
        rw [mAbv hV hw hF hc (show k < 12 by omega), z_bnd]
        cases ea : abv D c k with
        | false =>
          simp only [Bool.false_eq_true, if_false, if_true]
          rw [pf_no0 (by unfold bk0; rw [ea, Bool.and_false])]
          exact ih
        | true =>
          simp only [if_true, one0, if_false]
          rw [pf_yes (by unfold bk0; rw [eg, ea, od_ex.mpr ⟨a, ev⟩]; rfl) (by omega)]
          exact ih
theorem mBacks {q : Nat} {G : zG} (hV : zV G) {D : zD} (hF : zF G D) {c : Nat} (hc : c < 12) {x : nz_S} (hw : mW x D) (hz : zM x q G) : f_X8_backs q (nI c) x = some (bm (bk0 G D c), x) := by
  have := mBacks_5 hV hF hc hw hz (fun u22 u23 x21 => some (u22, x21)) G.1 0 nz_F (by omega) (by have := hV.1; unfold nz_F; omega)
  rw [pf_0, nI_0, pf_n (fun v _ hv => bk0_lt hF c v hv)] at this
  exact this
/-! ===== backward arcs counted ===== -/
theorem mBArc_14 {q : Nat} {G : zG} (hV : zV G) {D : zD} (hF : zF G D) {b : Nat} (hb : b < G.1) {x : nz_S} (hw : mW x D) (hz : zM x q G) (K : Int32 → Int32 → nz_S → Option (Int32 × nz_S)) : ∀ r i fu n, i + r = (G.2.2 b).length → r < fu → f_X8_backArcs_14 q (nI b) fu (nI n) (nI i) x K = K (nI (((G.2.2 b).drop i).foldl (bc1 D b) n)) (nI (G.2.2 b).length) x
  | 0, i, fu + 1, n, e, _ => by
    have h12 := hV.1
    have hlb := hV.l hb
    have e3 : (13 : Int32) + nI b = nI (13 + b) := by rw [show (13 : Int32) = nI 13 from rfl, nI_add]
    have : i = (G.2.2 b).length := by omega
    subst this
    rw [f_X8_backArcs_14]
    simp only [e3, z_in (show 13 + b < 61 by omega) (by omega), z_chk, z_N (show 13 + b < 2147483648 by omega), hz.c hb]
    rw [if_pos ((z_le (by omega) (by omega)).mpr (Nat.le_refl _)), List.drop_length]
    rfl
  | r + 1, i, fu + 1, n, e, hf => by
    have h12 := hV.1
    have hlb := hV.l hb
    have hil : i < (G.2.2 b).length := by omega
    have ht := hV.t hb hil
    have htt := hz.t hb hil
    have e3 : (13 : Int32) + nI b = nI (13 + b) := by rw [show (13 : Int32) = nI 13 from rfl, nI_add]
    have e5 : (25 : Int32) + 3 * nI b + nI i = nI (25 + (3 * b + i)) := by
      rw [show (25 : Int32) = nI 25 from rfl, show (3 : Int32) = nI 3 from rfl, pk_mul, nI_add, nI_add, Nat.add_assoc]
    have hdrop : (G.2.2 b).drop i = (G.2.2 b).getD i 0 :: (G.2.2 b).drop (i + 1) := by
      rw [List.drop_eq_getElem_cons hil, List.getD_eq_getElem?_getD, List.getElem?_eq_getElem hil]
      rfl
    have ih := mBArc_14 hV hF hb hw hz K r (i + 1) fu (bc1 D b n ((G.2.2 b).getD i 0)) (by omega) (by omega)
    rw [hdrop, List.foldl_cons]
    obtain ⟨t, hte⟩ : ∃ t, t = (G.2.2 b).getD i 0 := ⟨_, rfl⟩
    rw [← hte] at ht htt ih ⊢
    rw [f_X8_backArcs_14]
    simp only [e3, z_in (show 13 + b < 61 by omega) (by omega), z_chk, z_N (show 13 + b < 2147483648 by omega), hz.c hb]
    rw [if_neg (by rw [z_le (by omega) (by omega)]; omega)]
    simp only [e5, z_in (show 25 + (3 * b + i) < 61 by omega) (by omega), z_chk, z_N (show 25 + (3 * b + i) < 2147483648 by omega), htt, mAbv hV hw hF (show t < 12 by omega) (show b < 12 by omega), z_bnd, nI_1]
    cases ea : abv D t b with
    | false =>
      simp only [Bool.false_eq_true, if_false, if_true, Int32.add_zero]
      have : bc1 D b n t = n := by unfold bc1; rw [ea]; rfl
      rw [this] at ih ⊢
      exact ih
    | true =>
      simp only [if_true, one0, if_false]
      have : bc1 D b n t = n + 1 := by unfold bc1; rw [ea]; rfl
      rw [this] at ih ⊢
      exact ih
theorem mBArc_4 {q : Nat} {G : zG} (hV : zV G) {D : zD} (hF : zF G D) {x : nz_S} (hw : mW x D) (hz : zM x q G) (K : Int32 → Int32 → nz_S → Option (Int32 × nz_S)) : ∀ r b fu, b + r = G.1 → r < fu → f_X8_backArcs_4 q fu (nI (sumN (fun b => bcN G D b) b)) (nI b) x K = K (nI (sumN (fun b => bcN G D b) G.1)) (nI G.1) x
  | 0, b, fu + 1, e, _ => by
    have h12 := hV.1
    have e0 : ((0 : Int32)).toNatClampNeg = 0 := rfl
    have : b = G.1 := by omega
    subst this
    rw [f_X8_backArcs_4]
    simp only [show nz_in 0 61 = true from rfl, z_chk, e0, hz.n]
    rw [if_pos ((z_le (by omega) (by omega)).mpr (Nat.le_refl _))]
  | r + 1, b, fu + 1, e, hf => by
    have h12 := hV.1
    have hlb := hV.l (show b < G.1 by omega)
    have e0 : ((0 : Int32)).toNatClampNeg = 0 := rfl
    have ih := mBArc_4 hV hF hw hz K r (b + 1) fu (by omega) (by omega)
    have i14 := mBArc_14 hV hF (show b < G.1 by omega) hw hz (fun u17 u18 x16 => f_X8_backArcs_4 q fu u17 (nI b + 1) x16 K) (G.2.2 b).length 0 nz_F (sumN (fun b => bcN G D b) b) (by omega) (by unfold nz_F; omega)
    rw [f_X8_backArcs_4]
    simp only [show nz_in 0 61 = true from rfl, z_chk, e0, hz.n]
    rw [if_neg (by rw [z_le (by omega) (by omega)]; omega)]
    rw [nI_0, List.drop_zero, bc1_add, nI_1] at i14
    refine Eq.trans ?_ (i14.trans ih)
    simp only [nI_1]
theorem mBArc {q : Nat} {G : zG} (hV : zV G) {D : zD} (hF : zF G D) {x : nz_S} (hw : mW x D) (hz : zM x q G) : f_X8_backArcs q x = some (nI (sumN (fun b => bcN G D b) G.1), x) := by
  have := mBArc_4 hV hF hw hz (fun u21 u22 x20 => some (u21, x20)) G.1 0 nz_F (by omega) (by have := hV.1; unfold nz_F; omega)
  rw [nI_0] at this
  exact this
