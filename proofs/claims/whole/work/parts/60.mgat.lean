/-! ===== the reference gathers ===== -/
def mV (x : nz_S) (W : zW) : Prop := (∀ c, c < 12 → x.1 15 c = oi (W.1 c)) ∧ (∀ c, c < 12 → x.1 16 c = nI (W.2.1 c)) ∧ (∀ c, c < 12 → x.1 17 c = bm (W.2.2 c))
def fQ (w : Nat) (x y : nz_S) : Prop := (∀ c, c ≠ 16 → c ≠ 17 → y.1 c = x.1 c) ∧ (∀ i, i ≠ w → y.1 16 i = x.1 16 i ∧ y.1 17 i = x.1 17 i) ∧ y.2 = x.2
theorem fQ.rf (w : Nat) (x : nz_S) : fQ w x x := ⟨fun _ _ _ => rfl, fun _ _ => ⟨rfl, rfl⟩, rfl⟩
theorem fQ.tr {w : Nat} {x y z : nz_S} (h : fQ w x y) (h2 : fQ w y z) : fQ w x z := ⟨fun c h3 h4 => (h2.1 c h3 h4).trans (h.1 c h3 h4), fun i hi => ⟨((h2.2.1 i hi).1).trans (h.2.1 i hi).1, ((h2.2.1 i hi).2).trans (h.2.1 i hi).2⟩, h2.2.2.trans h.2.2⟩
theorem fQ_put (w : Nat) (x : nz_S) (c : Nat) (v : Int32) (h : c = 16 ∨ c = 17) : fQ w x (nz_put x c w v) := by
  refine ⟨fun d h1 h2 => by rw [z_put1, if_neg (by omega)], fun i hi => ⟨?_, ?_⟩, rfl⟩
  · rw [z_put1]
    by_cases hc : 16 = c
    · rw [if_pos hc, z_upd, if_neg hi, hc]
    · rw [if_neg hc]
  · rw [z_put1]
    by_cases hc : 17 = c
    · rw [if_pos hc, z_upd, if_neg hi, hc]
    · rw [if_neg hc]
theorem fQ.E {w : Nat} {x y : nz_S} (h : fQ w x y) : fE x y := ⟨fun c hc => h.1 c (by omega) (by omega), h.2.2⟩
def dA (D : zD) (H : Nat → Option Nat) (S : Nat → Bool) (w k : Nat) : Nat → Bool := fun v => lds H S k v && abv D w v && !decide (v = w)
def dE (D : zD) (H : Nat → Option Nat) (S ew : Nat → Bool) (w k : Nat) : Nat → Bool := fun v => ew v || (lds H S k v && !abv D w v)
def dT (D : zD) (H : Nat → Option Nat) (S : Nat → Bool) (w tw k : Nat) : Nat := if strg D H S w k then 3 else tw
theorem dA_s (D : zD) (H : Nat → Option Nat) (S : Nat → Bool) (w k v : Nat) : dA D H S w (k + 1) v = ((lds H S k v || (S k && decide (v = ldr H k))) && abv D w v && !decide (v = w)) := by rw [dA, lds]
theorem dE_s (D : zD) (H : Nat → Option Nat) (S ew : Nat → Bool) (w k v : Nat) : dE D H S ew w (k + 1) v = (ew v || ((lds H S k v || (S k && decide (v = ldr H k))) && !abv D w v)) := by rw [dE, lds]
theorem dT_s (D : zD) (H : Nat → Option Nat) (S : Nat → Bool) (w tw k : Nat) : dT D H S w tw (k + 1) = if (strg D H S w k || (S k && !abv D w (ldr H k))) then 3 else tw := by rw [dT, strg]
theorem mDraw_5 {G : zG} (hV : zV G) {D : zD} (hF : zF G D) {p : Nat} {W : zW} (hU : zU D p W) {w xb : Nat} (hw : w < 12) (hxb : xb < 12) (hne : xb ≠ w) (S ew : Nat → Bool) (tw : Nat) (K : Int32 → Int32 → nz_S → Option (Int32 × nz_S)) : ∀ r k fu (x : nz_S), k + r = 12 → r < fu → mW x D → (∀ c, c < 12 → x.1 15 c = oi (W.1 c)) → x.1 17 xb = bm S → x.1 17 w = bm (dE D W.1 S ew w k) → x.1 16 w = nI (dT D W.1 S w tw k) → ∃ y, f_X8_drawnBy_5 (nI w) (nI xb) fu (bm (dA D W.1 S w k)) (nI k) x K = K (bm (dA D W.1 S w 12)) (nI 12) y ∧ y.1 17 w = bm (dE D W.1 S ew w 12) ∧ y.1 16 w = nI (dT D W.1 S w tw 12) ∧ fQ w x y
  | 0, k, fu + 1, x, e, _, hm, h15, h17, hw17, hw16 => by
    have : k = 12 := by omega
    subst this
    exact ⟨x, by rw [f_X8_drawnBy_5, if_pos ge12], hw17, hw16, fQ.rf w x⟩
  | r + 1, k, fu + 1, x, e, hf, hm, h15, h17, hw17, hw16 => by
    have hH := zU.lt hV hF hU
    have hl : ldr W.1 k < 12 := ldrN_lt hH 12 k (by omega)
    have go : ∀ (x2 : nz_S) (a : Int32), fQ w x x2 → x2.1 17 w = bm (dE D W.1 S ew w (k + 1)) → x2.1 16 w = nI (dT D W.1 S w tw (k + 1)) → a = bm (dA D W.1 S w (k + 1)) → ∃ y, f_X8_drawnBy_5 (nI w) (nI xb) fu a (nI (k + 1)) x2 K = K (bm (dA D W.1 S w 12)) (nI 12) y ∧ y.1 17 w = bm (dE D W.1 S ew w 12) ∧ y.1 16 w = nI (dT D W.1 S w tw 12) ∧ fQ w x y := by
      intro x2 a f2 g17 g16 ha
      rw [ha]
      obtain ⟨y, y1, y2, y3, y4⟩ := mDraw_5 hV hF hU hw hxb hne S ew tw K r (k + 1) fu x2 (by omega) (by omega) (f2.E.W hm) (fun c hc => by rw [f2.1 15 (by omega) (by omega)]; exact h15 c hc) (by rw [(f2.2.1 xb hne).2]; exact h17) g17 g16
      exact ⟨y, y1, y2, y3, f2.tr y4⟩
    rw [f_X8_drawnBy_5, if_neg (lt12 (by omega))]
    simp only [z_in hxb (by omega), z_chk, z_N (show xb < 2147483648 by omega), h17, mHas S (show k < 12 by omega), z_bnd, nI_1]
    cases hs : S k with
    | false =>
      simp only [Bool.false_eq_true, if_false, if_true]
      refine go x _ (fQ.rf w x) ?_ ?_ ?_
      · rw [hw17]; exact bm_ext (fun v _ => by rw [dE_s, hs, Bool.false_and, Bool.or_false, dE])
      · rw [hw16, dT_s, hs, Bool.false_and, Bool.or_false, dT]
      · exact bm_ext (fun v _ => by rw [dA_s, hs, Bool.false_and, Bool.or_false, dA])
    | true =>
      simp only [if_true, one0, if_false, mLdr hH hU.dk h15 (show k < 12 by omega) (rk_lt hV hF k), z_bnd, mAbv hV hm hF hw hl, z_in hw (by omega), z_chk, z_N (show w < 2147483648 by omega), bm_or0, bm_one _ hl]
      cases ha : abv D w (ldr W.1 k) with
      | false =>
        simp only [Bool.false_eq_true, if_false, if_true]
        refine go _ _ ((fQ_put w x 17 _ (by omega)).tr (fQ_put w _ 16 _ (by omega))) ?_ ?_ ?_
        · rw [z_put1, if_neg (by omega), z_put1, if_pos rfl, z_upd, if_pos rfl, hw17, bm_or]
          refine bm_ext (fun v _ => ?_)
          rw [dE_s, hs, Bool.true_and, dE]
          by_cases hv : v = ldr W.1 k
          · rw [hv, ha]; simp
          · rw [decide_eq_false hv, Bool.or_false, Bool.or_false]
        · rw [z_put1, if_pos rfl, z_upd, if_pos rfl, dT_s, hs, ha]
          simp only [Bool.not_false, Bool.and_self, Bool.or_true, if_true]
          rfl
        · refine bm_ext (fun v _ => ?_)
          rw [dA_s, hs, Bool.true_and, dA]
          by_cases hv : v = ldr W.1 k
          · rw [hv, ha]; simp
          · rw [decide_eq_false hv, Bool.or_false]
      | true =>
        simp only [if_true, one0, if_false]
        have q16 : ∀ u : Int32, (nz_put x 17 w u).1 16 w = x.1 16 w := fun u => by rw [z_put1, if_neg (by omega)]
        have e17 : x.1 17 w = bm (dE D W.1 S ew w (k + 1)) := by
          rw [hw17]
          refine bm_ext (fun v _ => ?_)
          rw [dE_s, hs, Bool.true_and, dE]
          by_cases hv : v = ldr W.1 k
          · rw [hv, ha]; simp
          · rw [decide_eq_false hv, Bool.or_false]
        have e16 : x.1 16 w = nI (dT D W.1 S w tw (k + 1)) := by
          rw [hw16, dT_s, hs, ha, Bool.not_true, Bool.and_false, Bool.or_false, dT]
        have o17 : x.1 17 w ||| 0 = bm (dE D W.1 S ew w (k + 1)) := by rw [e17, bm_or0]
        have f2 : ∀ u u' : Int32, fQ w x (nz_put (nz_put x 17 w u) 16 w u') := fun u u' => (fQ_put w x 17 _ (by omega)).tr (fQ_put w _ 16 _ (by omega))
        by_cases hlw : ldr W.1 k = w
        · have : nI (ldr W.1 k) = nI w := by rw [hlw]
          simp only [this, if_true, bm_or0]
          refine go _ _ (f2 _ _) ?_ ?_ ?_
          · rw [z_put1, if_neg (by omega), z_put1, if_pos rfl, z_upd, if_pos rfl]; exact o17
          · rw [z_put1, if_pos rfl, z_upd, if_pos rfl, q16]; exact e16
          · refine bm_ext (fun v _ => ?_)
            rw [dA_s, hs, Bool.true_and, dA]
            by_cases hv : v = ldr W.1 k
            · rw [hv, hlw]; simp
            · rw [decide_eq_false hv, Bool.or_false]
        · have : ¬ nI (ldr W.1 k) = nI w := by rw [z_eq (by omega) (by omega)]; exact hlw
          simp only [this, if_false, bm_or]
          refine go _ _ (f2 _ _) ?_ ?_ ?_
          · rw [z_put1, if_neg (by omega), z_put1, if_pos rfl, z_upd, if_pos rfl]; exact o17
          · rw [z_put1, if_pos rfl, z_upd, if_pos rfl, q16]; exact e16
          · refine bm_ext (fun v _ => ?_)
            rw [dA_s, hs, Bool.true_and, dA]
            by_cases hv : v = ldr W.1 k
            · rw [hv, ha, decide_eq_false hlw]; simp
            · rw [decide_eq_false hv, Bool.or_false, Bool.or_false]
theorem mDraw {G : zG} (hV : zV G) {D : zD} (hF : zF G D) {p : Nat} {W : zW} (hU : zU D p W) {w xb : Nat} (hw : w < 12) (hxb : xb < 12) (hne : xb ≠ w) (S ew : Nat → Bool) (tw : Nat) {x : nz_S} (hm : mW x D) (h15 : ∀ c, c < 12 → x.1 15 c = oi (W.1 c)) (h17 : x.1 17 xb = bm S) (hw17 : x.1 17 w = bm ew) (hw16 : x.1 16 w = nI tw) : ∃ y, f_X8_drawnBy (nI w) (nI xb) x = some (bm (dA D W.1 S w 12), y) ∧ y.1 17 w = bm (dE D W.1 S ew w 12) ∧ y.1 16 w = nI (dT D W.1 S w tw 12) ∧ fQ w x y := by
  obtain ⟨y, y1, y2, y3, y4⟩ := mDraw_5 hV hF hU hw hxb hne S ew tw (fun u86 _ x85 => some (u86, x85)) 12 0 nz_F x (by omega) (by unfold nz_F; omega) hm h15 h17 (by rw [hw17]; exact bm_ext (fun v _ => by simp [dE, lds])) (by rw [hw16]; rfl)
  have e0 : bm (dA D W.1 S w 0) = 0 := bm_0.mpr (fun v _ => by simp [dA, lds])
  rw [e0, nI_0] at y1
  exact ⟨y, y1, y2, y3, y4⟩
theorem mBody_13 {G : zG} (hV : zV G) {D : zD} (hF : zF G D) {p : Nat} {W : zW} (hU : zU D p W) {w : Nat} (hw : w < 12) (q : Nat) (S : Nat → Bool) {x : nz_S} (h15 : ∀ c, c < 12 → x.1 15 c = oi (W.1 c)) (K : Int32 → Int32 → nz_S → Option (Int32 × nz_S)) : ∀ r k fu, k + r = 12 → r < fu → f_X8_bodyOf_13 q (nI w) (bm S) fu (bm (fun v => lds W.1 S k v && !decide (v = w))) (nI k) x K = K (bm (fun v => lds W.1 S 12 v && !decide (v = w))) (nI 12) x
  | 0, k, fu + 1, e, _ => by
    have : k = 12 := by omega
    subst this
    rw [f_X8_bodyOf_13, if_pos ge12]
  | r + 1, k, fu + 1, e, hf => by
    have hH := zU.lt hV hF hU
    have hl : ldr W.1 k < 12 := ldrN_lt hH 12 k (by omega)
    have ih := mBody_13 hV hF hU hw q S h15 K r (k + 1) fu (by omega) (by omega)
    rw [f_X8_bodyOf_13, if_neg (lt12 (by omega))]
    simp only [mHas S (show k < 12 by omega), z_bnd, nI_1, bm_or0, mLdr hH hU.dk h15 (show k < 12 by omega) (rk_lt hV hF k), bm_one _ hl, bm_or]
    cases hs : S k with
    | false =>
      simp only [Bool.false_eq_true, if_false, if_true]
      have : bm (fun v => lds W.1 S (k + 1) v && !decide (v = w)) = bm (fun v => lds W.1 S k v && !decide (v = w)) := bm_ext (fun v _ => by rw [lds, hs]; simp)
      rw [this] at ih
      exact ih
    | true =>
      simp only [if_true, one0, if_false]
      by_cases hlw : ldr W.1 k = w
      · rw [if_pos (by rw [hlw])]
        have : bm (fun v => lds W.1 S (k + 1) v && !decide (v = w)) = bm (fun v => lds W.1 S k v && !decide (v = w)) := bm_ext (fun v _ => by
          rw [lds, hs]
          by_cases hv : v = w
          · simp [hv]
          · simp [hv, hlw])
        rw [this] at ih
        exact ih
      · rw [if_neg (by rw [z_eq (by omega) (by omega)]; exact hlw)]
        have : bm (fun v => lds W.1 S (k + 1) v && !decide (v = w)) = bm (fun v => (lds W.1 S k v && !decide (v = w)) || decide (v = ldr W.1 k)) := bm_ext (fun v _ => by
          rw [lds, hs]
          by_cases hv : v = ldr W.1 k
          · simp [hv, hlw]
          · simp [hv])
        rw [this] at ih
        exact ih
theorem mBody_99 (q : Nat) (c : Int32) {a b : Nat → Bool} {m : Nat} (hm : m < 12) (hy : (a m && !b m) = true) (hn : ∀ k, k < m → (a k && !b k) = false) (x : nz_S) (K : Int32 → nz_S → Option (Int32 × nz_S)) : ∀ r k fu, k + r = m → r < fu → f_X8_bodyOf_99 q c (bm a) (bm b) fu (nI k) x K = K (nI m) x
  | 0, k, fu + 1, e, _ => by
    have hk : k = m := by omega
    rw [hk, f_X8_bodyOf_99, bm_dif, mHas _ hm, z_bnd]
    simp only [hy, if_true, one0, if_false]
  | r + 1, k, fu + 1, e, hf => by
    have hn2 := hn k (by omega)
    rw [f_X8_bodyOf_99, bm_dif, mHas _ (show k < 12 by omega), z_bnd]
    simp only [hn2, Bool.false_eq_true, if_false, if_true, nI_1]
    exact mBody_99 q c hm hy hn x K r (k + 1) fu (by omega) (by omega)
theorem mBody_89 {G : zG} (hV : zV G) {D : zD} (hF : zF G D) {p : Nat} {W : zW} (hU : zU D p W) {w : Nat} (hw : w < 12) (q : Nat) (K : Int32 → Int32 → nz_S → Option (Int32 × nz_S)) (n : Nat) : ∀ fu (s : zB) (x : nz_S), 12 ≤ fb_ct s.2.1 12 + n → n < fu → s.1 w = false → (∀ k, k < 12 → s.2.1 k = true → s.1 k = true) → mW x D → (∀ c, c < 12 → x.1 15 c = oi (W.1 c)) → (∀ c, c < 12 → c ≠ w → x.1 17 c = bm (W.2.2 c)) → x.1 17 w = bm s.2.2.1 → x.1 16 w = nI s.2.2.2 → ∃ y d, f_X8_bodyOf_89 q (nI w) fu (bm s.1) (bm s.2.1) x K = K (bm (gLp D W.1 W.2.2 w n s).1) d y ∧ y.1 17 w = bm (gLp D W.1 W.2.2 w n s).2.2.1 ∧ y.1 16 w = nI (gLp D W.1 W.2.2 w n s).2.2.2 ∧ fQ w x y := by
  have hstop : ∀ (fu : Nat) (s : zB) (x : nz_S), (∀ k, k < 12 → s.2.1 k = true → s.1 k = true) → ¬ lb (opn s) 12 < 12 → f_X8_bodyOf_89 q (nI w) (fu + 1) (bm s.1) (bm s.2.1) x K = K (bm s.1) (bm s.2.1) x := by
    intro fu s x hd ho
    have : bm s.2.1 = bm s.1 := bm_ext (fun k hk => by
      cases h1 : s.1 k with
      | false =>
        cases h2 : s.2.1 k with
        | false => rfl
        | true => have := hd k hk h2; rw [h1] at this; cases this
      | true =>
        cases h2 : s.2.1 k with
        | true => rfl
        | false => exact absurd (lb_ex (s := opn s) hk (by unfold opn; rw [h1, h2]; rfl)) ho)
    rw [f_X8_bodyOf_89, if_pos this]
  induction n with
  | zero =>
    intro fu s x hc hf hs hd hm h15 h17 hw17 hw16
    obtain ⟨fu, rfl⟩ : ∃ f, fu = f + 1 := ⟨fu - 1, by omega⟩
    have hall := fb_ct_all.mp (show fb_ct s.2.1 12 = 12 by have := fb_ct_le s.2.1 12; omega)
    have := hd w hw (hall w hw)
    rw [hs] at this
    cases this
  | succ n ih =>
    intro fu s x hc hf hs hd hm h15 h17 hw17 hw16
    obtain ⟨fu, rfl⟩ : ∃ f, fu = f + 1 := ⟨fu - 1, by omega⟩
    by_cases ho : lb (opn s) 12 < 12
    · rw [gLp_y ho]
      have hy := lb_yes (opn s) 12 ho
      have hxw : lb (opn s) 12 ≠ w := by
        intro q
        rw [q] at hy
        unfold opn at hy
        rw [hs] at hy
        cases hy
      have hy2 : s.2.1 (lb (opn s) 12) = false := by
        unfold opn at hy ⊢
        rw [Bool.and_eq_true, Bool.not_eq_true'] at hy
        exact hy.2
      have hy1 : s.1 (lb (opn s) 12) = true := by
        unfold opn at hy ⊢
        rw [Bool.and_eq_true] at hy
        exact hy.1
      have hne : ¬ bm s.2.1 = bm s.1 := by
        intro e
        have := bm_inj e _ ho
        rw [hy1, hy2] at this
        cases this
      obtain ⟨y, y1, y2, y3, y4⟩ := mDraw hV hF hU hw ho hxw (W.2.2 (lb (opn s) 12)) s.2.2.1 s.2.2.2 hm h15 (h17 _ ho hxw) hw17 hw16
      have g1 : bm s.1 ||| bm (dA D W.1 (W.2.2 (lb (opn s) 12)) w 12) = bm (gSt D W.1 W.2.2 w s).1 := by
        rw [bm_or]; exact bm_ext (fun v _ => by rw [gSt_1, dA])
      have g2 : bm s.2.1 ||| ((1 : Int32) <<< (nI (lb (opn s) 12) &&& 31)) = bm (gSt D W.1 W.2.2 w s).2.1 := by
        rw [bm_one _ ho, bm_or]; exact bm_ext (fun v _ => by rw [gSt_2])
      have g3 : y.1 17 w = bm (gSt D W.1 W.2.2 w s).2.2.1 := by
        rw [y2]; exact bm_ext (fun v _ => by rw [gSt_3, dE])
      have g4 : y.1 16 w = nI (gSt D W.1 W.2.2 w s).2.2.2 := by
        rw [y3, gSt_4, dT]
      have g5 : fb_ct (gSt D W.1 W.2.2 w s).2.1 12 = fb_ct s.2.1 12 + 1 := by
        have h1 := fb_ct_upd s.2.1 true ho
        rw [hy2] at h1
        simp only [Bool.false_eq_true, if_false, if_true, Nat.add_zero] at h1
        rw [← h1]
        refine fb_ct_cong (fun k _ => ?_)
        rw [gSt_2]
        by_cases hk : k = lb (opn s) 12
        · rw [if_pos hk, decide_eq_true hk, Bool.or_true]
        · rw [if_neg hk, decide_eq_false hk, Bool.or_false]
      obtain ⟨z, d, z1, z2, z3, z4⟩ := ih fu (gSt D W.1 W.2.2 w s) y (by omega) (by omega) (gSt_w hs) (fun k hk hk2 => by
        rw [gSt_2, Bool.or_eq_true, decide_eq_true_iff] at hk2
        rw [gSt_1, Bool.or_eq_true]
        rcases hk2 with q | q
        · exact Or.inl (hd k hk q)
        · rw [q]; exact Or.inl hy1) (y4.E.W hm) (fun c hc => by rw [y4.1 15 (by omega) (by omega)]; exact h15 c hc) (fun c hc hcw => by rw [(y4.2.1 c hcw).2]; exact h17 c hc hcw) g3 g4
      refine ⟨z, d, ?_, z2, z3, y4.tr z4⟩
      rw [f_X8_bodyOf_89, if_neg hne]
      have hno : ∀ k, k < lb (opn s) 12 → (s.1 k && !s.2.1 k) = false := fun k hk => lb_no (opn s) 12 k hk
      obtain ⟨m, hm2⟩ : ∃ m, m = lb (opn s) 12 := ⟨_, rfl⟩
      rw [← hm2] at ho hy hno y1 g2
      have b99 := mBody_99 q (nI w) (a := s.1) (b := s.2.1) ho hy hno x (fun u36 x35 => nz_bnd (f_X8_drawnBy (nI w) u36 x35) fun r38 x39 => f_X8_bodyOf_89 q (nI w) fu (bm s.1 ||| r38) (bm s.2.1 ||| ((1 : Int32) <<< (u36 &&& 31))) x39 K) m 0 nz_F (Nat.zero_add _) (by unfold nz_F; omega)
      rw [nI_0] at b99
      refine b99.trans ?_
      simp only [y1, z_bnd, g2]
      rw [← hm2] at g1
      rw [g1]
      exact z1
    · rw [gLp_n ho]
      exact ⟨x, _, hstop fu s x hd ho, hw17, hw16, fQ.rf w x⟩
