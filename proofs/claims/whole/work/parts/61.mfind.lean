theorem mBodyK {G : zG} (hV : zV G) {D : zD} (hF : zF G D) {p : Nat} {W : zW} (hU : zU D p W) {w : Nat} (hw : w < 12) (q : Nat) {x : nz_S} (hm : mW x D) (hx : mV x W) (hb : lb (bk0 G D w) 12 < 12) {v : Int32} {t : Nat} (hv : v = nI t) (ht : (gS0 G D W w).2.2.2 = t) : ∃ y, (f_X8_bodyOf_89 q (nI w) nz_F (bm (bd0 G D W.1 w)) (0 : Int32) (nz_put x 16 w v) fun u53 _ x52 => some (u53, x52)) = some (bm (gS1 G D W w).1, y) ∧ (∀ c, c < 12 → y.1 15 c = oi (W.1 c)) ∧ (∀ c, c < 12 → y.1 16 c = nI ((gat G D w W).2.1 c)) ∧ (∀ c, c < 12 → y.1 17 c = bm ((gat G D w W).2.2 c)) ∧ fQ w x y := by
  obtain ⟨x15, x16, x17⟩ := hx
  rw [hv]
  have fx : fQ w x (nz_put x 16 w (nI t)) := fQ_put w x 16 _ (by omega)
  have e0 : bm (gS0 G D W w).2.1 = 0 := by rw [gS0_2]; exact bm_0.mpr (fun _ _ => rfl)
  have e1 : gLp D W.1 W.2.2 w 12 (gS0 G D W w) = gS1 G D W w := by rw [gS1]
  obtain ⟨y, d, y1, y2, y3, y4⟩ := mBody_89 hV hF hU hw q (fun u53 _ x52 => some (u53, x52)) 12 nz_F (gS0 G D W w) (nz_put x 16 w (nI t)) (by omega) (by unfold nz_F; omega) (by rw [gS0_1, bd0_w]) (fun k _ hk => by rw [gS0_2] at hk; cases hk) (fx.E.W hm) (fun c hc => by rw [fx.1 15 (by omega) (by omega)]; exact x15 c hc) (fun c hc hcw => by rw [(fx.2.1 c hcw).2]; exact x17 c hc) (by rw [z_put1, if_neg (by omega), gS0_3]; exact x17 w hw) (by rw [z_put1, if_pos rfl, z_upd, if_pos rfl, ht])
  rw [e0, e1, gS0_1] at y1
  rw [e1] at y2 y3
  have fy := fx.tr y4
  refine ⟨y, y1, fun c hc => ?_, fun c hc => ?_, fun c hc => ?_, fy⟩
  · rw [fy.1 15 (by omega) (by omega)]; exact x15 c hc
  · rw [gat_2 hb]
    by_cases hcw : c = w
    · rw [if_pos hcw, hcw]; exact y3
    · rw [if_neg hcw, (fy.2.1 c hcw).1]; exact x16 c hc
  · rw [gat_3 hb]
    by_cases hcw : c = w
    · rw [if_pos hcw, hcw]; exact y2
    · rw [if_neg hcw, (fy.2.1 c hcw).2]; exact x17 c hc
theorem mBody {q : Nat} {G : zG} (hV : zV G) {D : zD} (hF : zF G D) {p : Nat} {W : zW} (hU : zU D (p + 1) W) {w : Nat} (hw : D.2.1 w = some p) {x : nz_S} (hm : mW x D) (hz : zM x q G) (hx : mV x W) : ∃ y S, f_X8_bodyOf q (nI w) x = some (bm S, y) ∧ (∀ c, c < 12 → y.1 15 c = oi (W.1 c)) ∧ (∀ c, c < 12 → (gat G D w W).1 c = if S c then some w else W.1 c) ∧ (∀ c, c < 12 → y.1 16 c = nI ((gat G D w W).2.1 c)) ∧ (∀ c, c < 12 → y.1 17 c = bm ((gat G D w W).2.2 c)) ∧ fQ w x y := by
  have h12 := hV.1
  have hwn := (hF.I.1 w p hw).1
  have hw12 : w < 12 := by omega
  have hbd : bm (fun v => lds W.1 (bk0 G D w) 12 v && !decide (v = w)) = bm (bd0 G D W.1 w) := rfl
  have e13 : ∀ K : Int32 → Int32 → nz_S → Option (Int32 × nz_S), f_X8_bodyOf_13 q (nI w) (bm (bk0 G D w)) nz_F (0 : Int32) (0 : Int32) x K = K (bm (bd0 G D W.1 w)) (nI 12) x := by
    intro K
    have := mBody_13 hV hF hU hw12 q (bk0 G D w) hx.1 K 12 0 nz_F (by omega) (by unfold nz_F; omega)
    have e0 : bm (fun v => lds W.1 (bk0 G D w) 0 v && !decide (v = w)) = 0 := bm_0.mpr (fun v _ => by simp [lds])
    rw [e0, nI_0, hbd] at this
    exact this
  by_cases hb : lb (bk0 G D w) 12 < 12
  · have hn0 := lb12.mp hb
    by_cases h0 : bm (bd0 G D W.1 w) = 0
    · obtain ⟨y, y1, y2, y3, y4, y5⟩ := mBodyK (v := 1) (t := 1) hV hF hU hw12 q hm hx hb rfl (by rw [gS0_4, if_neg (fun q => lb12.mp q h0)])
      refine ⟨y, (gS1 G D W w).1, ?_, y2, fun c hc => by rw [gat_1 hb, decide_eq_true hc, Bool.true_and], y3, y4, y5⟩
      unfold f_X8_bodyOf
      simp only [mBacks hV hF hw12 hm hz, z_bnd, e13, hn0, if_false, h0, if_true, z_in hw12 (by omega), z_chk, z_N (show w < 2147483648 by omega)]
      rw [h0] at y1
      exact y1
    · obtain ⟨y, y1, y2, y3, y4, y5⟩ := mBodyK (v := 2) (t := 2) hV hF hU hw12 q hm hx hb rfl (by rw [gS0_4, if_pos (lb12.mpr h0)])
      refine ⟨y, (gS1 G D W w).1, ?_, y2, fun c hc => by rw [gat_1 hb, decide_eq_true hc, Bool.true_and], y3, y4, y5⟩
      unfold f_X8_bodyOf
      simp only [mBacks hV hF hw12 hm hz, z_bnd, e13, hn0, if_false, h0, z_in hw12 (by omega), z_chk, z_N (show w < 2147483648 by omega)]
      exact y1
  · have h0 : bm (bk0 G D w) = 0 := by
      by_cases q : bm (bk0 G D w) = 0
      · exact q
      · exact absurd (lb12.mpr q) hb
    have hbd0 : bm (bd0 G D W.1 w) = 0 := by
      rw [bm_0]
      intro v hv
      cases e : bd0 G D W.1 w v with
      | false => rfl
      | true =>
        unfold bd0 at e
        rw [Bool.and_eq_true] at e
        obtain ⟨y, y1, y2, -⟩ := (lds_ex _ _ _ _).mp e.1
        rw [bm_0.mp h0 y y1] at y2
        cases y2
    have hT : W.2.1 w = 0 := by
      by_cases q : W.2.1 w = 0
      · exact q
      · obtain ⟨k, h1, h2⟩ := hU.2.2.2 w q
        rw [hw] at h1
        have := Option.some.inj h1
        omega
    have fx : fQ w x (nz_put x 16 w 0) := fQ_put w x 16 _ (by omega)
    rw [gat_n hb]
    rw [h0] at e13
    refine ⟨nz_put x 16 w 0, fun _ => false, ?_, fun c hc => ?_, fun c hc => rfl, fun c hc => ?_, fun c hc => ?_, fx⟩
    · unfold f_X8_bodyOf
      simp only [mBacks hV hF hw12 hm hz, z_bnd, e13, h0, if_true, hbd0, z_in hw12 (by omega), z_chk, z_N (show w < 2147483648 by omega)]
      have hst : ∀ (fu : Nat) (x : nz_S) (K : Int32 → Int32 → nz_S → Option (Int32 × nz_S)), f_X8_bodyOf_89 q (nI w) (fu + 1) 0 0 x K = K 0 0 x := fun fu x K => by rw [f_X8_bodyOf_89, if_pos rfl]
      rw [bm_no]
      exact hst 999 _ _
    · rw [fx.1 15 (by omega) (by omega)]; exact hx.1 c hc
    · rw [z_put1, if_pos rfl, z_upd]
      by_cases hcw : c = w
      · rw [if_pos hcw, hcw, hT]; rfl
      · rw [if_neg hcw]; exact hx.2.1 c hc
    · rw [z_put1, if_neg (by omega)]; exact hx.2.2 c hc
theorem mFind_23 {G : zG} (hV : zV G) {D : zD} (hF : zF G D) (q : Nat) {w p : Nat} (hw : D.2.1 w = some p) {x : nz_S} (hm : mW x D) (K : Int32 → nz_S → Option (Unit × nz_S)) : ∀ r k fu, k + r = w → r < fu → f_X8_find_23 q (nI p) fu (nI k) x K = K (nI w) x
  | 0, k, fu + 1, e, _ => by
    have h12 := hV.1
    have hwn := (hF.I.1 w p hw).1
    have hk : k = w := by omega
    rw [hk, f_X8_find_23]
    simp only [z_in (show w < 12 by omega) (by omega), z_chk, z_N (show w < 2147483648 by omega), hm.2.1 w (by omega), hw, oi_some, if_true]
  | r + 1, k, fu + 1, e, hf => by
    have h12 := hV.1
    have hle := hF.I.le
    have hwn := (hF.I.1 w p hw).1
    have hpn := (hF.I.1 w p hw).2.1
    rw [f_X8_find_23]
    simp only [z_in (show k < 12 by omega) (by omega), z_chk, z_N (show k < 2147483648 by omega), hm.2.1 k (by omega), nI_1]
    have : ¬ oi (D.2.1 k) = nI p := by
      cases hk : D.2.1 k with
      | none =>
        intro e2
        exact z_m9 (show p < 2147483648 by omega) e2.symm
      | some j =>
        have hj := (hF.I.1 k j hk).2.1
        have hjp := od_ne hF.I hw hk (by omega)
        rw [oi_some, z_eq (by omega) (by omega)]; exact hjp
    rw [if_neg this]
    exact mFind_23 hV hF q hw hm K r (k + 1) fu (by omega) (by omega)
theorem mFind_50 (q : Nat) (c2 : Int32) (S : Nat → Bool) {w : Nat} (K : Int32 → nz_S → Option (Unit × nz_S)) : ∀ r j fu (x : nz_S), j + r = 12 → r < fu → ∃ y, f_X8_find_50 q c2 (nI w) (bm S) fu (nI j) x K = K (nI 12) y ∧ (∀ c, c < 12 → y.1 15 c = if j ≤ c ∧ S c = true then nI w else x.1 15 c) ∧ (∀ c, c ≠ 15 → y.1 c = x.1 c) ∧ y.2 = x.2
  | 0, j, fu + 1, x, e, _ => by
    have : j = 12 := by omega
    subst this
    exact ⟨x, by rw [f_X8_find_50, if_pos ge12], fun c hc => (if_neg (by omega)).symm, fun _ _ => rfl, rfl⟩
  | r + 1, j, fu + 1, x, e, hf => by
    rw [f_X8_find_50, if_neg (lt12 (by omega)), mHas S (show j < 12 by omega), z_bnd]
    simp only [nI_1, z_in (show j < 12 by omega) (by omega), z_chk, z_N (show j < 2147483648 by omega)]
    cases hs : S j with
    | false =>
      simp only [Bool.false_eq_true, if_false, if_true]
      obtain ⟨y, y1, y2, y3, y4⟩ := mFind_50 q c2 S (w := w) K r (j + 1) fu (nz_put x 15 j (x.1 15 j)) (by omega) (by omega)
      refine ⟨y, y1, fun c hc => ?_, fun c hc => ?_, y4⟩
      · rw [y2 c hc, z_put1, if_pos rfl, z_upd]
        by_cases hcj : c = j
        · rw [if_neg (by omega), if_pos hcj, if_neg (by rw [hcj, hs]; simp), hcj]
        · rw [if_neg hcj]
          by_cases hq : j + 1 ≤ c ∧ S c = true
          · rw [if_pos hq, if_pos ⟨by omega, hq.2⟩]
          · rw [if_neg hq, if_neg (fun h => hq ⟨by omega, h.2⟩)]
      · rw [y3 c hc, z_put1, if_neg hc]
    | true =>
      simp only [if_true, one0, if_false]
      obtain ⟨y, y1, y2, y3, y4⟩ := mFind_50 q c2 S (w := w) K r (j + 1) fu (nz_put x 15 j (nI w)) (by omega) (by omega)
      refine ⟨y, y1, fun c hc => ?_, fun c hc => ?_, y4⟩
      · rw [y2 c hc, z_put1, if_pos rfl, z_upd]
        by_cases hcj : c = j
        · rw [if_neg (by omega), if_pos hcj, if_pos ⟨by omega, by rw [hcj]; exact hs⟩]
        · rw [if_neg hcj]
          by_cases hq : j + 1 ≤ c ∧ S c = true
          · rw [if_pos hq, if_pos ⟨by omega, hq.2⟩]
          · rw [if_neg hq, if_neg (fun h => hq ⟨by omega, h.2⟩)]
      · rw [y3 c hc, z_put1, if_neg hc]
theorem mFind_17 {q : Nat} {G : zG} (hq : q = 3 ∨ q = 4) (hV : zV G) {D : zD} (hF : zF G D) (K : Int32 → nz_S → Option (Unit × nz_S)) : ∀ p fu (x : nz_S) (W : zW), p ≤ D.1 → p < fu → zU D p W → mW x D → zM x q G → mV x W → ∃ y, f_X8_find_17 q fu (nI p - 1) x K = K (-1) y ∧ mV y (gAll G D p W) ∧ fE x y
  | 0, fu + 1, x, W, _, _, hU, hm, hz, hx => ⟨x, by rw [f_X8_find_17, show nI 0 - 1 = (-1 : Int32) by decide, if_pos (by decide)], hx, fE.rf x⟩
  | p + 1, fu + 1, x, W, hp, hf, hU, hm, hz, hx => by
    have h12 := hV.1
    have hle := hF.I.le
    have hw := hF.I.2 p (show p < D.1 by omega)
    have hwn := hF.I.at_lt (show p < D.1 by omega)
    obtain ⟨y, S, y1, y2, y3, y4, y5, y6⟩ := mBody hV hF hU hw hm hz hx
    obtain ⟨z, z1, z2, z3, z4⟩ := mFind_50 q (nI p) S (w := D.2.2.2 p) (fun _ x29 => f_X8_find_17 q fu (nI p + (-1)) x29 K) 12 0 nz_F y (by omega) (by unfold nz_F; omega)
    rw [nI_0, sub1] at z1
    have fz : fE x z := y6.E.tr ⟨fun c hc => z3 c (by omega), z4⟩
    have hz2 : mV z (gat G D (D.2.2.2 p) W) := by
      refine ⟨fun c hc => ?_, fun c hc => ?_, fun c hc => ?_⟩
      · rw [z2 c hc, y3 c hc, y2 c hc]
        by_cases hs : S c = true
        · rw [if_pos ⟨by omega, hs⟩, if_pos hs]; rfl
        · rw [if_neg (fun h => hs h.2), if_neg hs]
      · rw [z3 16 (by omega)]; exact y4 c hc
      · rw [z3 17 (by omega)]; exact y5 c hc
    obtain ⟨u, u1, u2, u3⟩ := mFind_17 hq hV hF K p fu z (gat G D (D.2.2.2 p) W) (by omega) (by omega) (zU_gat hF hU hw) (fz.W hm) (fz.M hq hz) hz2
    refine ⟨u, ?_, u2, fz.tr u3⟩
    rw [f_X8_find_17, nI_s1 p (by omega), if_neg (nI_pos (by omega))]
    have f23 := mFind_23 hV hF q hw hm (fun u13 x12 => nz_bnd (f_X8_bodyOf q u13 x12) fun r14 x15 => f_X8_find_50 q (nI p) u13 r14 nz_F (0 : Int32) x15 fun _ x29 => f_X8_find_17 q fu (nI p + (-1)) x29 K) (D.2.2.2 p) 0 nz_F (Nat.zero_add _) (by unfold nz_F; omega)
    rw [nI_0] at f23
    refine f23.trans ?_
    simp only [y1, z_bnd]
    rw [sub1]
    exact z1.trans u1
def fN (x y : nz_S) : Prop := (∀ c, c ≠ 0 → c < 11 ∨ 17 < c → y.1 c = x.1 c) ∧ (∀ i, i ≠ 16 → y.1 0 i = x.1 0 i) ∧ y.2 = x.2
theorem fN.rf (x : nz_S) : fN x x := ⟨fun _ _ _ => rfl, fun _ _ => rfl, rfl⟩
theorem fN.tr {x y z : nz_S} (h : fN x y) (h2 : fN y z) : fN x z := ⟨fun c h0 hc => (h2.1 c h0 hc).trans (h.1 c h0 hc), fun i hi => (h2.2.1 i hi).trans (h.2.1 i hi), h2.2.2.trans h.2.2⟩
theorem fN.M {x y : nz_S} (h : fN x y) {q : Nat} {G : zG} (hq : q = 3 ∨ q = 4) (hm : zM x q G) : zM y q G := zM_eq hm (h.1 q (by omega) (by omega))
theorem fN.eM {x y : nz_S} (h : fN x y) : eM x y := ⟨fun c hc => h.1 c (by omega) (by omega), h.2.1 2 (by omega), h.2.1 8 (by omega), h.2.1 11 (by omega), h.2.2⟩
theorem mFind {q : Nat} {G : zG} (hq : q = 3 ∨ q = 4) (hV : zV G) {x : nz_S} (hz : zM x q G) : ∃ y, f_X8_find q x = some ((), y) ∧ mW y (dfs G) ∧ mV y (wrk G (dfs G)) ∧ fN x y := by
  have h12 := hV.1
  have hF := dfs_F hV
  have hle := hF.I.le
  obtain ⟨x2, a1, a2, a3⟩ := mWalk hq hV hz
  have hz2 := a3.M hq hz
  obtain ⟨x5, b1, b2, b3⟩ := mLay hq hV hF a2 hz2
  have hm5 := b3.W a2
  have hx5 : mV x5 (w0 G (dfs G)) := ⟨fun c hc => (b2 c hc).2.1, fun c hc => (b2 c hc).2.2, fun c hc => (b2 c hc).1⟩
  obtain ⟨y, y1, y2, y3⟩ := mFind_17 hq hV hF (fun _ x32 => some ((), x32)) (dfs G).1 nz_F x5 (w0 G (dfs G)) (Nat.le_refl _) (by unfold nz_F; omega) (w0_U G _) hm5 (b3.M hq hz2) hx5
  refine ⟨y, ?_, y3.W hm5, y2, ?_⟩
  · unfold f_X8_find
    rw [a1, z_bnd, b1, z_bnd, hm5.1]
    exact y1
  · refine ⟨fun c h0 hc => ?_, fun i hi => ?_, ?_⟩
    · rw [y3.1 c (by omega), b3.1 c (by omega), a3.1 c h0 (by omega)]
    · rw [y3.1 0 (by omega), b3.1 0 (by omega), a3.2.1 i hi]
    · rw [y3.2, b3.2, a3.2.2.2]
