/-! ===== MENDED ===== -/
def lsN (S : Nat → Bool) (n : Nat) : Option Nat := if lb S n < n then some (lb S n) else none
theorem lsN_y {S : Nat → Bool} {n : Nat} (h : lb S n < n) : lsN S n = some (lb S n) := by rw [lsN, if_pos h]
theorem lsN_n {S : Nat → Bool} {n : Nat} (h : ¬ lb S n < n) : lsN S n = none := by rw [lsN, if_neg h]
theorem lb_is {s : Nat → Bool} {n j : Nat} (h : ∀ k, k < j → s k = false) (hj : s j = true) (hn : j < n) : lb s n = j := by
  have h1 := lb_ex hn hj
  rcases Nat.lt_trichotomy (lb s n) j with q | q | q
  · have := lb_yes s n h1
    rw [h _ q] at this; cases this
  · exact q
  · have := lb_no s n j q
    rw [hj] at this; cases this
theorem lb_all {s : Nat → Bool} {n : Nat} (h : ∀ k, k < n → s k = false) : ¬ lb s n < n := fun q => by
  have := lb_yes s n q
  rw [h _ q] at this; cases this
def mdS (G : zG) (D : zD) (W : zW) (w v b : Nat) : Bool := (od D b && !nst W w b) && tg0 G D b v
def mdX (G : zG) (D : zD) (W : zW) (w v : Nat) : Bool := anyN (mdS G D W w v) G.1 && (nst W w v && !decide (v = w))
def mdW (G : zG) (D : zD) (W : zW) : Option Nat → Option (Nat × Nat)
  | none => none
  | some w => if G.1 = 12 then none else (lsN (mdX G D W w) 12).map (fun v => (lb (mdS G D W w v) G.1, v))
def mnd (G : zG) : Option (Nat × Nat) := mdW G (dfs G) (wrk G (dfs G)) (lme (dfs G) (wrk G (dfs G)))
/-! in the class -/
theorem kLeast (S : Nat → Bool) (x : nz_S) : f_X7_leastOf (bm S) x = some (oi (lsN S 12), x) := by
  unfold f_X7_leastOf
  by_cases h : lb S 12 < 12
  · rw [if_neg (lb12.mp h), ntz_bm (lb12' h), z_bnd, lsN_y h]; rfl
  · have h0 : bm S = 0 := by
      by_cases q : bm S = 0
      · exact q
      · exact absurd (lb12.mpr q) h
    rw [if_pos h0, lsN_n h]; rfl
theorem kTgt_5 {G : zG} {D : zD} (W : zW) (w : Nat) (hV : zV G) {x : nz_S} (hk : zK x 7 G) (h15 : ∀ c, c < 12 → x.1 15 c = bm (tg0 G D c)) (c2 : Int32) (K : Int32 → Int32 → nz_S → Option (Int32 × nz_S)) : ∀ r j fu, j + r = G.1 → r < fu → f_X7_leastTarget_5 (bm (fun b => od D b && !nst W w b)) c2 fu (bm (fun v => anyN (mdS G D W w v) j)) (nI j) x K = K (bm (fun v => anyN (mdS G D W w v) G.1)) (nI G.1) x
  | 0, j, fu + 1, e, _ => by
    have h12 := hV.1
    have : j = G.1 := by omega
    subst this
    rw [f_X7_leastTarget_5, hk.n, if_pos ((z_le (by omega) (by omega)).mpr (Nat.le_refl _))]
  | r + 1, j, fu + 1, e, hf => by
    have h12 := hV.1
    have hj : j < 12 := by omega
    have ih := kTgt_5 W w hV hk h15 c2 K r (j + 1) fu (by omega) (by omega)
    rw [f_X7_leastTarget_5, hk.n, if_neg (by rw [z_le (by omega) (by omega)]; omega)]
    simp only [bit_bm0 _ hj, z_in hj (by omega), z_chk, z_N (show j < 2147483648 by omega), h15 j hj, bm_or, nI_1]
    cases q : (od D j && !nst W w j) with
    | false =>
      rw [if_pos rfl]
      rw [show bm (fun v => anyN (mdS G D W w v) (j + 1)) = bm (fun v => anyN (mdS G D W w v) j) from bm_ext (fun v _ => by
        show (anyN (mdS G D W w v) j || mdS G D W w v j) = _
        unfold mdS
        rw [q, Bool.false_and, Bool.or_false])] at ih
      exact ih
    | true =>
      rw [if_neg (by decide)]
      rw [show bm (fun v => anyN (mdS G D W w v) (j + 1)) = bm (fun v => anyN (mdS G D W w v) j || tg0 G D j v) from bm_ext (fun v _ => by
        show (anyN (mdS G D W w v) j || mdS G D W w v j) = _
        conv => lhs; rhs; unfold mdS
        rw [q, Bool.true_and])] at ih
      exact ih
theorem kTgt {G : zG} {D : zD} (W : zW) (w : Nat) (hV : zV G) {x : nz_S} (hk : zK x 7 G) (h15 : ∀ c, c < 12 → x.1 15 c = bm (tg0 G D c)) : f_X7_leastTarget (bm (fun b => od D b && !nst W w b)) (bm (fun v => nst W w v && !decide (v = w))) x = some (oi (lsN (mdX G D W w) 12), x) := by
  have h12 := hV.1
  have := kTgt_5 W w hV hk h15 (bm (fun v => nst W w v && !decide (v = w))) (fun u8 _ x7 => nz_bnd (f_X7_leastOf (u8 &&& (bm (fun v => nst W w v && !decide (v = w)))) x7) fun r10 x11 => some (r10, x11)) G.1 0 nz_F (by omega) (by unfold nz_F; omega)
  rw [show bm (fun v => anyN (mdS G D W w v) 0) = 0 from bm_0.mpr (fun _ _ => rfl), nI_0, bm_and] at this
  refine this.trans ?_
  rw [show bm (fun v => anyN (mdS G D W w v) G.1 && (nst W w v && !decide (v = w))) = bm (mdX G D W w) from rfl, kLeast, z_bnd]
theorem kSrc_2 {G : zG} {D : zD} (W : zW) (w : Nat) (hV : zV G) {x : nz_S} (hk : zK x 7 G) (h15 : ∀ c, c < 12 → x.1 15 c = bm (tg0 G D c)) {v : Nat} (hv : v < 12) : ∀ r j fu, j + r = G.1 → r < fu → (∀ k, k < j → mdS G D W w v k = false) → f_X7_leastSource_2 (bm (fun b => od D b && !nst W w b)) (nI v) fu (nI j) x (fun _ y => some (-9, y)) = some (oi (lsN (mdS G D W w v) G.1), x)
  | 0, j, fu + 1, e, _, h => by
    have h12 := hV.1
    have : j = G.1 := by omega
    subst this
    rw [f_X7_leastSource_2, hk.n, if_pos ((z_le (by omega) (by omega)).mpr (Nat.le_refl _)), lsN_n (lb_all h)]
    rfl
  | r + 1, j, fu + 1, e, hf, h => by
    have h12 := hV.1
    have hj : j < 12 := by omega
    have ih := kSrc_2 W w hV hk h15 hv r (j + 1) fu (by omega) (by omega)
    have nx : mdS G D W w v j = false → ∀ k, k < j + 1 → mdS G D W w v k = false := fun q k hk => by
      by_cases hkj : k = j
      · rw [hkj]; exact q
      · exact h k (by omega)
    rw [f_X7_leastSource_2, hk.n, if_neg (by rw [z_le (by omega) (by omega)]; omega)]
    simp only [bit_bm0 _ hj, bit_bm0 _ hv, z_in hj (by omega), z_chk, z_N (show j < 2147483648 by omega), h15 j hj, nI_1]
    cases q : (od D j && !nst W w j) with
    | false =>
      rw [if_pos rfl]
      exact ih (nx (by unfold mdS; rw [q]; rfl))
    | true =>
      rw [if_neg (by decide)]
      cases q2 : tg0 G D j v with
      | false =>
        rw [if_pos rfl]
        exact ih (nx (by unfold mdS; rw [q2, Bool.and_false]))
      | true =>
        have hm : mdS G D W w v j = true := by unfold mdS; rw [q, q2]; rfl
        have hl := lb_is h hm (show j < G.1 by omega)
        rw [if_neg (by decide), lsN_y (by omega), hl]
        rfl
theorem kSrc {G : zG} {D : zD} (W : zW) (w : Nat) (hV : zV G) {x : nz_S} (hk : zK x 7 G) (h15 : ∀ c, c < 12 → x.1 15 c = bm (tg0 G D c)) {v : Nat} (hv : v < 12) : f_X7_leastSource (bm (fun b => od D b && !nst W w b)) (nI v) x = some (oi (lsN (mdS G D W w v) G.1), x) := by
  have h12 := hV.1
  exact kSrc_2 W w hV hk h15 hv G.1 0 nz_F (by omega) (by unfold nz_F; omega) (fun k hk => absurd hk (Nat.not_lt_zero k))
theorem lme_lt {G : zG} {D : zD} {W : zW} (hF : zF G D) (hU : zU D 0 W) {w : Nat} (h : lme D W = some w) : w < G.1 := by
  have := lmN_b hF W D.1 (Nat.le_refl _)
  unfold lme at h
  rw [h] at this
  exact hF.lt this.1.1
theorem mdX_yes {G : zG} {D : zD} {W : zW} (hV : zV G) {w v : Nat} (h : mdX G D W w v = true) : v < G.1 ∧ lb (mdS G D W w v) G.1 < G.1 ∧ gGo G (lb (mdS G D W w v) G.1) v = true := by
  unfold mdX at h
  rw [Bool.and_eq_true] at h
  obtain ⟨k, k1, k2⟩ := (anyN_ex _ _).mp h.1
  have h1 := lb_ex k1 k2
  have h2 := lb_yes _ _ h1
  have h3 : gGo G (lb (mdS G D W w v) G.1) v = true := by
    have h2 : ((od D (lb (mdS G D W w v) G.1) && !nst W w (lb (mdS G D W w v) G.1)) && tg0 G D (lb (mdS G D W w v) G.1) v) = true := h2
    rw [Bool.and_eq_true] at h2
    have := h2.2
    unfold tg0 at this
    rw [Bool.and_eq_true] at this
    exact this.2
  exact ⟨(hV.2 _ h1).2 v (gGo_mem.mp h3), h1, h3⟩
theorem mnd_ok {G : zG} (hV : zV G) {p v : Nat} (h : mnd G = some (p, v)) : p < G.1 ∧ v < G.1 ∧ gGo G p v = true ∧ G.1 < 12 := by
  have h12 := hV.1
  unfold mnd at h
  cases e : lme (dfs G) (wrk G (dfs G)) with
  | none => rw [e] at h; cases h
  | some w =>
    rw [e] at h
    have h : (if G.1 = 12 then none else (lsN (mdX G (dfs G) (wrk G (dfs G)) w) 12).map (fun v => (lb (mdS G (dfs G) (wrk G (dfs G)) w v) G.1, v))) = some (p, v) := h
    by_cases hn : G.1 = 12
    · rw [if_pos hn] at h; cases h
    · rw [if_neg hn] at h
      by_cases hl : lb (mdX G (dfs G) (wrk G (dfs G)) w) 12 < 12
      · rw [lsN_y hl, Option.map_some] at h
        have h := Option.some.inj h
        have e1 := congrArg Prod.fst h
        have e2 := congrArg Prod.snd h
        simp only at e1 e2
        have := mdX_yes hV (lb_yes _ _ hl)
        rw [e2] at e1 this
        rw [e1] at this
        exact ⟨this.2.1, this.1, this.2.2, by omega⟩
      · rw [lsN_n hl] at h; cases h
theorem kFullS {x : nz_S} {g : Nat} {G : zG} (h : zK x g G) (hV : zV G) {p s : Nat} (hp : p < G.1) (hs : s < G.1) (hf : G.1 = 12) (hgo : gGo G p s = true) : f_X0_copyBlockFor g (nI p) (nI s) x = some (-4, x) := by
  have k12' : ¬ nI G.1 < 12 := by rw [hf]; decide
  have h1 : (0 ≤ (nI p).toInt ∧ (nI p).toInt < (G.1 : Int)) := by rw [nI_toInt (by omega)]; omega
  have h2 : (0 ≤ (nI s).toInt ∧ (nI s).toInt < (G.1 : Int)) := by rw [nI_toInt (by omega)]; omega
  simp only [f_X0_copyBlockFor, kHB h hV, if_pos h1, if_pos h2, z_bnd, one0, if_false, kGoes h hV hp (show s < 100 by omega), hgo, if_true, f_X0_appendBlock, h.n, k12', z_in (show s < 12 by omega) (by omega), z_chk]
theorem kMend1 {G : zG} (hV : zV G) {x : nz_S} (hx : kS x G (dfs G) (wrk G (dfs G))) (hk : zK x 7 G) : (mnd G = none → f_X7_mendOnce x = some (0, x)) ∧ (∀ p v, mnd G = some (p, v) → ∃ y, f_X7_mendOnce x = some (1, y) ∧ zK y 7 (gSplit G p v) ∧ (∀ c, c < 7 ∨ 10 < c → y.1 c = x.1 c) ∧ y.2 = x.2) := by
  have h12 := hV.1
  have hF := dfs_F hV
  have hU := wrk_U hF
  obtain ⟨D, hD⟩ : ∃ D, D = dfs G := ⟨_, rfl⟩
  obtain ⟨W, hW⟩ : ∃ W, W = wrk G (dfs G) := ⟨_, rfl⟩
  have hmn : mnd G = mdW G D W (lme D W) := by unfold mnd; rw [hD, hW]
  rw [← hW] at hx hU
  rw [← hD] at hx hF hU
  rw [hmn]
  have kl := kLast hV hF hU.2.2.1 hx.1 hx.2.2.2.2.2.2.1
  cases e : lme D W with
  | none =>
    rw [e] at kl
    refine ⟨fun _ => ?_, fun p v q => by cases q⟩
    unfold f_X7_mendOnce
    rw [kl, z_bnd, oi_none, if_pos rfl]
  | some w =>
    rw [e] at kl
    have hw := lme_lt hF hU e
    have base : f_X7_mendOnce x = (if oi (lsN (mdX G D W w) 12) = -9 then some (0, x) else nz_bnd (f_X7_leastSource (bm (fun b => od D b && !nst W w b)) (oi (lsN (mdX G D W w) 12)) x) fun r13 x14 => nz_bnd (f_X0_copyBlockFor 7 r13 (oi (lsN (mdX G D W w) 12)) x14) fun r16 x17 => if r16 < 0 then some (0, x17) else some (1, x17)) := by
      unfold f_X7_mendOnce
      rw [kl, z_bnd, oi_some, if_neg (z_m9 (by omega)), kNest hV hF hU hx.1 hx.2.2.2.2.2.1 (show w < 12 by omega), z_bnd]
      simp only [hx.2.1, bm_dif, bm_one w (show w < 12 by omega), kTgt W w hV hk hx.2.2.2.1, z_bnd]
    rw [base]
    show ((if G.1 = 12 then none else (lsN (mdX G D W w) 12).map (fun v => (lb (mdS G D W w v) G.1, v))) = none → _) ∧ (∀ p v, (if G.1 = 12 then none else (lsN (mdX G D W w) 12).map (fun v => (lb (mdS G D W w v) G.1, v))) = some (p, v) → _)
    by_cases hl : lb (mdX G D W w) 12 < 12
    · have hy := mdX_yes hV (lb_yes _ _ hl)
      rw [lsN_y hl, Option.map_some]
      obtain ⟨v, hv⟩ : ∃ v, v = lb (mdX G D W w) 12 := ⟨_, rfl⟩
      rw [← hv] at hy hl ⊢
      obtain ⟨y1, y2, y3⟩ := hy
      rw [oi_some, if_neg (z_m9 (by omega)), kSrc W w hV hk hx.2.2.2.1 hl, z_bnd, lsN_y y2, oi_some]
      by_cases hn : G.1 = 12
      · rw [if_pos hn]
        refine ⟨fun _ => ?_, fun p v q => by cases q⟩
        rw [kFullS hk hV y2 y1 hn y3, z_bnd, if_pos (by decide)]
      · rw [if_neg hn]
        refine ⟨fun q => (by cases q), fun p v2 q => ?_⟩
        have q := Option.some.inj q
        have e1 := congrArg Prod.fst q
        have e2 := congrArg Prod.snd q
        simp only at e1 e2
        rw [← e1, ← e2]
        obtain ⟨y, z1, z2, z3, z4⟩ := kSplit hk hV y2 y1 (by omega) y3
        refine ⟨y, ?_, z2, fun c hc => z3 c (by omega), z4⟩
        rw [z1, z_bnd, if_neg (nI_pos (by omega))]
    · rw [lsN_n hl, Option.map_none, oi_none, if_pos rfl, ite_self]
      exact ⟨fun _ => rfl, fun p v q => by cases q⟩
/-! in the reference -/
theorem mCom_3 {q : Nat} {G : zG} {D : zD} (W : zW) (w : Nat) (hV : zV G) (hF : zF G D) {x : nz_S} (hw : mW x D) (hz : zM x q G) {v : Nat} (hv : v < 12) : ∀ r j fu, j + r = G.1 → r < fu → (∀ k, k < j → mdS G D W w v k = false) → f_X8_comes_3 q (bm (nst W w)) (nI v) fu (nI j) x (fun _ y => some (-9, y)) = some (oi (lsN (mdS G D W w v) G.1), x)
  | 0, j, fu + 1, e, _, h => by
    have h12 := hV.1
    have e0 : ((0 : Int32)).toNatClampNeg = 0 := rfl
    have : j = G.1 := by omega
    subst this
    rw [f_X8_comes_3]
    simp only [show nz_in 0 61 = true from rfl, z_chk, e0, hz.n]
    rw [if_pos ((z_le (by omega) (by omega)).mpr (Nat.le_refl _)), lsN_n (lb_all h)]
    rfl
  | r + 1, j, fu + 1, e, hf, h => by
    have h12 := hV.1
    have e0 : ((0 : Int32)).toNatClampNeg = 0 := rfl
    have hj : j < 12 := by omega
    have ih := mCom_3 W w hV hF hw hz hv r (j + 1) fu (by omega) (by omega)
    have nx : mdS G D W w v j = false → ∀ k, k < j + 1 → mdS G D W w v k = false := fun q k hk => by
      by_cases hkj : k = j
      · rw [hkj]; exact q
      · exact h k (by omega)
    rw [f_X8_comes_3]
    simp only [show nz_in 0 61 = true from rfl, z_chk, e0, hz.n]
    rw [if_neg (by rw [z_le (by omega) (by omega)]; omega)]
    simp only [z_in hj (by omega), z_chk, z_N (show j < 2147483648 by omega), hw.2.1 j hj, nI_1, mHas _ hj, z_bnd, mGoes hz hV (show j < G.1 by omega) (show v < 100 by omega)]
    cases ho : D.2.1 j with
    | none =>
      rw [oi_none, if_pos rfl]
      exact ih (nx (by unfold mdS; rw [od_no.mpr ho]; rfl))
    | some k =>
      have hk := hF.k hV ho
      have od1 : od D j = true := od_ex.mpr ⟨k, ho⟩
      rw [oi_some, if_neg (z_m9 (by omega))]
      cases q1 : nst W w j with
      | true =>
        simp only [if_true, one0, if_false]
        exact ih (nx (by unfold mdS; rw [q1]; simp))
      | false =>
        simp only [Bool.false_eq_true, if_false, if_true]
        cases q2 : gGo G j v with
        | false =>
          simp only [Bool.false_eq_true, if_false, if_true]
          exact ih (nx (by unfold mdS tg0; rw [q2]; simp))
        | true =>
          have hm : mdS G D W w v j = true := by unfold mdS tg0; rw [q1, q2, od1]; rfl
          have hl := lb_is h hm (show j < G.1 by omega)
          simp only [if_true, one0, if_false]
          rw [lsN_y (by omega), hl]
          rfl
theorem mCom {q : Nat} {G : zG} {D : zD} (W : zW) (w : Nat) (hV : zV G) (hF : zF G D) {x : nz_S} (hw : mW x D) (hz : zM x q G) {v : Nat} (hv : v < 12) : f_X8_comes q (bm (nst W w)) (nI v) x = some (oi (lsN (mdS G D W w v) G.1), x) := by
  have h12 := hV.1
  exact mCom_3 W w hV hF hw hz hv G.1 0 nz_F (by omega) (by unfold nz_F; omega) (fun k hk => absurd hk (Nat.not_lt_zero k))
theorem anyN_lsN (P : Nat → Bool) (n : Nat) : anyN P n = (lsN P n).isSome := by
  by_cases h : lb P n < n
  · rw [lsN_y h, (anyN_ex P n).mpr ⟨_, h, lb_yes P n h⟩]; rfl
  · rw [lsN_n h]
    cases e : anyN P n with
    | false => rfl
    | true =>
      obtain ⟨k, h1, h2⟩ := (anyN_ex P n).mp e
      exact absurd (lb_ex h1 h2) h
theorem mMd_35 {q : Nat} {G : zG} {D : zD} (W : zW) (w : Nat) (hw12 : w < 12) (hV : zV G) (hn : G.1 < 12) (hF : zF G D) {x : nz_S} (hw : mW x D) (hz : zM x q G) : ∀ r j fu, j + r = G.1 → r < fu → (∀ k, k < j → mdX G D W w k = false) → (lsN (mdX G D W w) 12 = none → f_X8_mends_35 q (nI w) (bm (nst W w)) fu (nI j) x (fun _ y => some (0, y)) = some (0, x)) ∧ (∀ v, lsN (mdX G D W w) 12 = some v → ∃ y, f_X8_mends_35 q (nI w) (bm (nst W w)) fu (nI j) x (fun _ y => some (0, y)) = some (1, y) ∧ zM y q (gSplit G (lb (mdS G D W w v) G.1) v) ∧ (∀ c, c ≠ q → y.1 c = x.1 c) ∧ y.2 = x.2)
  | 0, j, fu + 1, e, _, h => by
    have h12 := hV.1
    have e0 : ((0 : Int32)).toNatClampNeg = 0 := rfl
    have : j = G.1 := by omega
    subst this
    have hno : ¬ lb (mdX G D W w) 12 < 12 := fun hl => by
      have h1 := lb_yes _ _ hl
      have h2 := (mdX_yes hV h1).1
      rw [h _ h2] at h1; cases h1
    refine ⟨fun _ => ?_, fun v hv => by rw [lsN_n hno] at hv; cases hv⟩
    rw [f_X8_mends_35]
    simp only [show nz_in 0 61 = true from rfl, z_chk, e0, hz.n]
    rw [if_pos ((z_le (by omega) (by omega)).mpr (Nat.le_refl _))]
  | r + 1, j, fu + 1, e, hf, h => by
    have h12 := hV.1
    have e0 : ((0 : Int32)).toNatClampNeg = 0 := rfl
    have hj : j < 12 := by omega
    have ih := mMd_35 W w hw12 hV hn hF hw hz r (j + 1) fu (by omega) (by omega)
    have nx : mdX G D W w j = false → ∀ k, k < j + 1 → mdX G D W w k = false := fun q k hk => by
      by_cases hkj : k = j
      · rw [hkj]; exact q
      · exact h k (by omega)
    have base : f_X8_mends_35 q (nI w) (bm (nst W w)) (fu + 1) (nI j) x (fun _ y => some (0, y)) = if nI j = nI w then f_X8_mends_35 q (nI w) (bm (nst W w)) fu (nI (j + 1)) x (fun _ y => some (0, y)) else if (if nst W w j then (1 : Int32) else 0) = 0 then f_X8_mends_35 q (nI w) (bm (nst W w)) fu (nI (j + 1)) x (fun _ y => some (0, y)) else if oi (lsN (mdS G D W w j) G.1) = -9 then f_X8_mends_35 q (nI w) (bm (nst W w)) fu (nI (j + 1)) x (fun _ y => some (0, y)) else nz_bnd (f_X8_goSplit q (oi (lsN (mdS G D W w j) G.1)) (nI j) x) fun _ x30 => some (1, x30) := by
      rw [f_X8_mends_35]
      simp only [show nz_in 0 61 = true from rfl, z_chk, e0, hz.n]
      rw [if_neg (by rw [z_le (by omega) (by omega)]; omega)]
      simp only [nI_1, mHas _ hj, z_bnd, mCom W w hV hF hw hz hj]
    rw [base]
    by_cases q1 : j = w
    · rw [if_pos (by rw [q1])]
      exact ih (nx (by unfold mdX; rw [decide_eq_true q1]; simp))
    · rw [if_neg (by rw [z_eq (by omega) (by omega)]; exact q1)]
      cases q2 : nst W w j with
      | false =>
        simp only [Bool.false_eq_true, if_false, if_true]
        exact ih (nx (by unfold mdX; rw [q2]; simp))
      | true =>
        simp only [if_true, one0, if_false]
        by_cases q3 : lb (mdS G D W w j) G.1 < G.1
        · have hm : mdX G D W w j = true := by
            unfold mdX
            rw [anyN_lsN, lsN_y q3, q2, decide_eq_false q1]; rfl
          have hl := lb_is h hm hj
          have hlN : lsN (mdX G D W w) 12 = some j := by rw [lsN_y (by omega), hl]
          rw [lsN_y q3, oi_some, if_neg (z_m9 (by omega))]
          refine ⟨fun q => (by rw [hlN] at q; cases q), fun v hv => ?_⟩
          rw [hlN] at hv
          have hv := Option.some.inj hv
          rw [← hv]
          obtain ⟨y, u1, u2, u3, u4⟩ := mSplit hz hV q3 (show j < G.1 by omega) hn
          exact ⟨y, by rw [u1, z_bnd], u2, u3, u4⟩
        · rw [lsN_n q3, oi_none, if_pos rfl]
          exact ih (nx (by unfold mdX; rw [anyN_lsN, lsN_n q3]; rfl))
def fR (q : Nat) (x y : nz_S) : Prop := (∀ c, c ≠ 0 → c ≠ q → c < 11 ∨ 17 < c → y.1 c = x.1 c) ∧ (∀ i, i ≠ 16 → y.1 0 i = x.1 0 i) ∧ y.2 = x.2
theorem fR.rf (q : Nat) (x : nz_S) : fR q x x := ⟨fun _ _ _ _ => rfl, fun _ _ => rfl, rfl⟩
theorem fR.tr {q : Nat} {x y z : nz_S} (h : fR q x y) (h2 : fR q y z) : fR q x z := ⟨fun c h0 h1 hc => (h2.1 c h0 h1 hc).trans (h.1 c h0 h1 hc), fun i hi => (h2.2.1 i hi).trans (h.2.1 i hi), h2.2.2.trans h.2.2⟩
theorem fN.R {x y : nz_S} (h : fN x y) (q : Nat) : fR q x y := ⟨fun c h0 _ hc => h.1 c h0 hc, h.2.1, h.2.2⟩
theorem fR_one {q : Nat} (hq : q ≠ 0) {x y : nz_S} (h : ∀ c, c ≠ q → y.1 c = x.1 c) (h2 : y.2 = x.2) : fR q x y := ⟨fun c _ h1 _ => h c h1, fun i _ => by rw [h 0 (fun e => hq e.symm)], h2⟩
theorem fR.eM4 {x y : nz_S} (h : fR 4 x y) : eM x y := ⟨fun c hc => h.1 c (by omega) (by omega) (by omega), h.2.1 2 (by omega), h.2.1 8 (by omega), h.2.1 11 (by omega), h.2.2⟩
theorem mMend1 {q : Nat} {G : zG} (hq : q = 3 ∨ q = 4) (hV : zV G) {x : nz_S} (hz : zM x q G) : (mnd G = none → ∃ y, f_X8_mends q x = some (0, y) ∧ zM y q G ∧ fR q x y) ∧ (∀ p v, mnd G = some (p, v) → ∃ y, f_X8_mends q x = some (1, y) ∧ zM y q (gSplit G p v) ∧ fR q x y) := by
  have h12 := hV.1
  have hF := dfs_F hV
  have hU := wrk_U hF
  have e0 : ((0 : Int32)).toNatClampNeg = 0 := rfl
  obtain ⟨b2, s1, s2, s3, s4⟩ := mFind hq hV hz
  have hz2 := s4.M hq hz
  obtain ⟨D, hD⟩ : ∃ D, D = dfs G := ⟨_, rfl⟩
  obtain ⟨W, hW⟩ : ∃ W, W = wrk G (dfs G) := ⟨_, rfl⟩
  have hmn : mnd G = mdW G D W (lme D W) := by unfold mnd; rw [hD, hW]
  rw [← hW] at s3 hU
  rw [← hD] at s2 hF hU
  rw [hmn]
  have ml := mWst hV hF hU s2 s3
  cases e : lme D W with
  | none =>
    rw [e] at ml
    refine ⟨fun _ => ⟨b2, ?_, hz2, s4.R q⟩, fun p v q => by cases q⟩
    unfold f_X8_mends
    rw [s1, z_bnd, ml, z_bnd, oi_none, if_pos rfl]
  | some w =>
    rw [e] at ml
    have hw := lme_lt hF hU e
    show ((if G.1 = 12 then none else (lsN (mdX G D W w) 12).map (fun v => (lb (mdS G D W w v) G.1, v))) = none → _) ∧ (∀ p v, (if G.1 = 12 then none else (lsN (mdX G D W w) 12).map (fun v => (lb (mdS G D W w v) G.1, v))) = some (p, v) → _)
    by_cases hn : G.1 = 12
    · rw [if_pos hn]
      refine ⟨fun _ => ⟨b2, ?_, hz2, s4.R q⟩, fun p v q => by cases q⟩
      unfold f_X8_mends
      rw [s1, z_bnd, ml, z_bnd, oi_some, if_neg (z_m9 (by omega)), show nz_in 0 61 = true from rfl, z_chk, e0, hz2.n, if_pos (by rw [hn]; rfl)]
    · rw [if_neg hn]
      have base : f_X8_mends q x = f_X8_mends_35 q (nI w) (bm (nst W w)) nz_F (nI 0) b2 (fun _ y => some (0, y)) := by
        unfold f_X8_mends
        rw [s1, z_bnd, ml, z_bnd, oi_some, if_neg (z_m9 (by omega)), show nz_in 0 61 = true from rfl, z_chk, e0, hz2.n, if_neg (by rw [show (12 : Int32) = nI 12 from rfl, z_eq (by omega) (by omega)]; exact hn), mNest hV hF hU s3 (show w < 12 by omega), z_bnd]
        rfl
      rw [base]
      obtain ⟨m1, m2⟩ := mMd_35 (q := q) W w (by omega) hV (by omega) hF s2 hz2 G.1 0 nz_F (by omega) (by unfold nz_F; omega) (fun k hk => absurd hk (Nat.not_lt_zero k))
      cases el : lsN (mdX G D W w) 12 with
      | none =>
        refine ⟨fun _ => ⟨b2, m1 el, hz2, s4.R q⟩, fun p v q => by cases q⟩
      | some v =>
        refine ⟨fun q => (by cases q), fun p v2 hpv => ?_⟩
        have hpv := Option.some.inj hpv
        have e1 := congrArg Prod.fst hpv
        have e2 := congrArg Prod.snd hpv
        simp only at e1 e2
        rw [← e1, ← e2]
        obtain ⟨y, y1, y2, y3, y4⟩ := m2 v el
        exact ⟨y, y1, y2, (s4.R q).tr (fR_one (by omega) y3 y4)⟩
/-! as long as it can be -/
def mdN : Nat → zG → Nat × zG
  | 0, G => (0, G)
  | n + 1, G => match mnd G with
    | none => (0, G)
    | some pv => ((mdN n (gSplit G pv.1 pv.2)).1 + 1, (mdN n (gSplit G pv.1 pv.2)).2)
theorem mdN_n {n : Nat} {G : zG} (h : mnd G = none) : mdN (n + 1) G = (0, G) := by rw [mdN, h]
theorem mdN_s {n : Nat} {G : zG} {p v : Nat} (h : mnd G = some (p, v)) : mdN (n + 1) G = ((mdN n (gSplit G p v)).1 + 1, (mdN n (gSplit G p v)).2) := by rw [mdN, h]
theorem mdN_V : ∀ n (G : zG), zV G → zV (mdN n G).2 ∧ (mdN n G).1 ≤ n
  | 0, G, h => ⟨h, Nat.le_refl _⟩
  | n + 1, G, h => by
    cases e : mnd G with
    | none => rw [mdN_n e]; exact ⟨h, Nat.zero_le _⟩
    | some pv =>
      obtain ⟨p, v⟩ := pv
      obtain ⟨h1, h2, h3, h4⟩ := mnd_ok h e
      have ih := mdN_V n (gSplit G p v) (gSplit_V h h1 h2 h4)
      rw [mdN_s e]
      exact ⟨ih.1, by have := ih.2; show (mdN n (gSplit G p v)).1 + 1 ≤ n + 1; omega⟩
theorem mnd_0 {G : zG} (h : G.1 = 0) : mnd G = none := by
  unfold mnd
  have : dfs G = d0 := by rw [dfs, if_pos h]
  rw [this]
  rfl
theorem kMendT : ∀ (n i m fu : Nat) (G : zG) (x : nz_S), i + (n + 1) = 12 → n + 1 < fu → (13 ≤ G.1 + (n + 1) ∨ G.1 = 0) → zV G → zK x 7 G → ∃ y, f_X7_mendTrial_4 fu (nI m) (nI i) x (fun u _ y => some (u, y)) = some (nI (m + (mdN (n + 1) G).1), y) ∧ zK y 7 (mdN (n + 1) G).2 ∧ kS y (mdN (n + 1) G).2 (dfs (mdN (n + 1) G).2) (wrk (mdN (n + 1) G).2 (dfs (mdN (n + 1) G).2)) ∧ eK x y
  | n, i, m, 0, G, x, _, hf, _, _, _ => absurd hf (Nat.not_lt_zero _)
  | n, i, m, fu + 1, G, x, e, hf, hs, hV, hk => by
    obtain ⟨x3, r1, r2, r3⟩ := kRead (g := 7) (by omega) hV hk
    have hk3 : zK x3 7 G := r3.K (by omega) hk
    obtain ⟨o1, o2⟩ := kMend1 hV r2 hk3
    rw [f_X7_mendTrial_4, if_neg (lt12 (by omega)), r1, z_bnd]
    cases em : mnd G with
    | none =>
      refine ⟨x3, ?_, ?_, ?_, r3.eK⟩
      · rw [o1 em, z_bnd, if_pos rfl, mdN_n em]; rfl
      · rw [mdN_n em]; exact hk3
      · rw [mdN_n em]; exact r2
    | some pv =>
      obtain ⟨p, v⟩ := pv
      obtain ⟨h1, h2, h3, h4⟩ := mnd_ok hV em
      obtain ⟨y, y1, y2, y3, y4⟩ := o2 p v em
      have hg1 : (gSplit G p v).1 = G.1 + 1 := rfl
      cases n with
      | zero => exfalso; omega
      | succ n =>
        obtain ⟨z, z1, z2, z3, z4⟩ := kMendT n (i + 1) (m + 1) fu (gSplit G p v) y (by omega) (by omega) (by rw [hg1]; omega) (gSplit_V hV h1 h2 h4) y2
        have ey : eK x3 y := ⟨fun c hc => y3 c (by omega), y4⟩
        refine ⟨z, ?_, ?_, ?_, (r3.eK.tr ey).tr z4⟩
        · rw [y1, z_bnd, if_neg one0]
          simp only [nI_1]
          rw [z1, mdN_s em]
          show some (nI (m + 1 + (mdN (n + 1) (gSplit G p v)).1), z) = some (nI (m + ((mdN (n + 1) (gSplit G p v)).1 + 1)), z)
          rw [show m + 1 + (mdN (n + 1) (gSplit G p v)).1 = m + ((mdN (n + 1) (gSplit G p v)).1 + 1) by omega]
        · rw [mdN_s em]; exact z2
        · rw [mdN_s em]; exact z3
theorem kMend {G : zG} {x : nz_S} (hV : zV G) (hk : zK x 7 G) : ∃ y, f_X7_mendTrial x = some (nI (mdN 12 G).1, y) ∧ zK y 7 (mdN 12 G).2 ∧ kS y (mdN 12 G).2 (dfs (mdN 12 G).2) (wrk (mdN 12 G).2 (dfs (mdN 12 G).2)) ∧ eK x y := by
  obtain ⟨y, y1, y2⟩ := kMendT 11 0 0 nz_F G x (by omega) (by unfold nz_F; omega) (by omega) hV hk
  rw [Nat.zero_add] at y1
  exact ⟨y, y1, y2⟩
theorem mMendT {q : Nat} (hq : q = 3 ∨ q = 4) : ∀ (n m fu : Nat) (G : zG) (x : nz_S), m + n = 12 → n < fu → zV G → zM x q G → ∃ y, f_X8_goMend_2 q fu (nI m) x (fun u y => some (u, y)) = some (nI (m + (mdN n G).1), y) ∧ zM y q (mdN n G).2 ∧ fR q x y
  | n, m, 0, G, x, _, hf, _, _ => absurd hf (Nat.not_lt_zero _)
  | 0, m, fu + 1, G, x, e, _, hV, hz => by
    have : m = 12 := by omega
    subst this
    exact ⟨x, by rw [f_X8_goMend_2, if_pos ge12]; rfl, hz, fR.rf q x⟩
  | n + 1, m, fu + 1, G, x, e, hf, hV, hz => by
    obtain ⟨o1, o2⟩ := mMend1 hq hV hz
    rw [f_X8_goMend_2, if_neg (lt12 (by omega))]
    cases em : mnd G with
    | none =>
      obtain ⟨y, y1, y2, y3⟩ := o1 em
      refine ⟨y, ?_, ?_, y3⟩
      · rw [y1, z_bnd, if_pos rfl, mdN_n em]; rfl
      · rw [mdN_n em]; exact y2
    | some pv =>
      obtain ⟨p, v⟩ := pv
      obtain ⟨h1, h2, h3, h4⟩ := mnd_ok hV em
      obtain ⟨y, y1, y2, y3⟩ := o2 p v em
      obtain ⟨z, z1, z2, z3⟩ := mMendT hq n (m + 1) fu (gSplit G p v) y (by omega) (by omega) (gSplit_V hV h1 h2 h4) y2
      refine ⟨z, ?_, ?_, y3.tr z3⟩
      · rw [y1, z_bnd, if_neg one0]
        simp only [nI_1]
        rw [z1, mdN_s em]
        show some (nI (m + 1 + (mdN n (gSplit G p v)).1), z) = some (nI (m + ((mdN n (gSplit G p v)).1 + 1)), z)
        rw [show m + 1 + (mdN n (gSplit G p v)).1 = m + ((mdN n (gSplit G p v)).1 + 1) by omega]
      · rw [mdN_s em]; exact z2
theorem mMend {q : Nat} (hq : q = 3 ∨ q = 4) {G : zG} {x : nz_S} (hV : zV G) (hz : zM x q G) : ∃ y, f_X8_goMend q x = some (nI (mdN 12 G).1, y) ∧ zM y q (mdN 12 G).2 ∧ fR q x y := by
  obtain ⟨y, y1, y2⟩ := mMendT hq 12 0 nz_F G x (by omega) (by unfold nz_F; omega) hV hz
  rw [Nat.zero_add] at y1
  exact ⟨y, y1, y2⟩
theorem sim_mend (a b : nz_S) (h : zR a b) : nz_both zR (f_X7_mend a) (f_X8_mend b) := by
  obtain ⟨G, a2, b2, hV, hk, hm, hm0, em, r1, r2, r3, s1, s2, s3, s4, hm2⟩ := surv h
  have hF := dfs_F hV
  have hU := wrk_U hF
  have fe : eM b b2 := em.tr s4.eM
  have kl := kLast hV hF hU.2.2.1 r2.1 r2.2.2.2.2.2.2.1
  have ml := mWst hV hF hU s2 s3
  cases e : lme (dfs G) (wrk G (dfs G)) with
  | none =>
    rw [e] at kl ml
    refine ⟨-3, a2, b2, ?_, ?_, h.eq r3.eK fe⟩
    · rw [f_X7_mend, r1, z_bnd, kl, z_bnd, oi_none, if_pos rfl]
    · unfold f_X8_mend
      simp only [s1, z_bnd, ml, oi_none, if_true]
  | some w =>
    rw [e] at kl ml
    have hw := lme_lt hF hU e
    have h12 := hV.1
    have n9 : ¬ nI w = -9 := z_m9 (by omega)
    have hk2 : zK a2 3 G := r3.K (by omega) hk
    obtain ⟨a3, t1, t2, t3, t4⟩ := kTry hV hk2
    obtain ⟨a4, u1, u2, u3, u4⟩ := kMend hV t2
    obtain ⟨hV', hle⟩ := mdN_V 12 G hV
    obtain ⟨a', v1, b3, v2, v3, v4⟩ := doing h fe hV hk hm ((r3.eK.tr t4).tr u4) hV' u2 (r := (mdN 12 G).1) (by omega)
    obtain ⟨b4, w1, w2, w3⟩ := mMend (q := 3) (Or.inl rfl) hV v3
    have hz := v4 (nz_set b3 3 (b4.1 3)) (fun c hc => by rw [z_set1, if_neg hc]) rfl (by
      unfold zM
      rw [z_set1, if_pos rfl]
      exact w2)
    have eb : eM (nz_set b3 3 (b4.1 3)) b4 := by
      refine ⟨fun c hc => ?_, ?_, ?_, ?_, ?_⟩
      · rw [z_set1]
        by_cases q : c = 3
        · rw [if_pos q, q]
        · rw [if_neg q]; exact w3.1 c (by omega) q (by omega)
      · rw [z_set1, if_neg (by omega)]; exact w3.2.1 2 (by omega)
      · rw [z_set1, if_neg (by omega)]; exact w3.2.1 8 (by omega)
      · rw [z_set1, if_neg (by omega)]; exact w3.2.1 11 (by omega)
      · rw [z_set2]; exact w3.2.2
    refine ⟨nI (mdN 12 G).1, a', b4, ?_, ?_, hz.eq (eK.rf a') eb⟩
    · rw [f_X7_mend, r1, z_bnd, kl, z_bnd, oi_some, if_neg n9, t1, z_bnd, u1, z_bnd, v1, z_bnd]
    · unfold f_X8_mend
      simp only [s1, z_bnd, ml, oi_some, n9, if_false, v2, w1]
theorem begin_M {x : nz_S} {G : zG} (hV : zV G) (h : zM x 3 G) : zM (zcp x 3 0 4 0 61) 4 G ∧ zM (zcp x 3 0 4 0 61) 3 G ∧ eM x (zcp x 3 0 4 0 61) := by
  refine ⟨zMf_cp hV h (fun k hk => ?_), zM_eq h (zcp_o _ (by omega)), fun c hc => zcp_o _ (by omega), ?_, ?_, ?_, rfl⟩
  · rw [Nat.mul_zero, Nat.zero_add]
    have := zcp_in x (s := 3) (o := 0) (d := 4) (o' := 0) hk
    rw [Nat.zero_add] at this
    exact this
  all_goals rw [zcp_o _ (by omega)]
theorem sim_would (v : Int32) (a b : nz_S) (h : zR a b) : nz_both zR (f_X7_would v a) (f_X8_would v b) := by
  obtain ⟨-, ⟨G, hV, hk, hm⟩, -⟩ := id h
  have hk : zK a 3 G := hk
  have hm : zM b 3 G := hm
  have em : eM b (nz_put b 0 0 0) := eM_put0 _ _ _ (by omega)
  have hm0 : zM (nz_put b 0 0 0) 3 G := zM_eq hm (em.1 3 (by omega))
  have e0 : ((0 : Int32)).toNatClampNeg = 0 := rfl
  by_cases hw : 0 ≤ v.toInt ∧ v.toInt ≤ 2
  · have hw0 := hw
    obtain ⟨k, hk3, rfl⟩ := ib_ex (v := v) (n := 3) ⟨hw.1, by omega⟩
    have c1 : ¬ nI k < 0 := nI_pos (by omega)
    have c2 : nI k ≤ 2 := (z_le (b := 2) (by omega) (by omega)).mpr (by omega)
    obtain ⟨a1, t1, t2, t3, t4⟩ := kTry hV hk
    obtain ⟨a2, u1, u2, u3, u4⟩ := kMend hV t2
    have hV' := (mdN_V 12 G hV).1
    obtain ⟨g1, g2, g3⟩ := begin_M hV hm0
    obtain ⟨b2, w1, w2, w3⟩ := mMend (q := 4) (Or.inr rfl) hV g1
    obtain ⟨b3, x1, x2, x3, x4⟩ := mFind (q := 4) (Or.inr rfl) hV' w2
    have hF := dfs_F hV'
    have hU := wrk_U hF
    have kl := kLast hV' hF hU.2.2.1 u3.1 u3.2.2.2.2.2.2.1
    have ml := mWst hV' hF hU x2 x3
    have fe2 : eM b b2 := (em.tr g3).tr w3.eM4
    have fe3 : eM b b3 := fe2.tr x4.eM
    have ea := t4.tr u4
    have hz3 := x4.M (Or.inr rfl) w2
    have ke : ∀ i : Nat, f_X7_would (nI i) a = f_X7_would (nI i) a := fun _ => rfl
    rcases (show k = 0 ∨ k = 1 ∨ k = 2 by omega) with rfl | rfl | rfl
    · refine ⟨nI (mdN 12 G).1, a2, b2, ?_, ?_, h.eq ea fe2⟩
      · rw [f_X7_would, if_neg c1, if_pos c2, t1, z_bnd, u1, z_bnd, if_pos (by decide)]
      · unfold f_X8_would
        simp only [in_eqI, l0, l2, hw0, and_self, if_true, z_bnd, one0, if_false, mBegin, w1]
        rw [if_pos (by decide)]
    · refine ⟨nI (mdN 12 G).2.1, a2, b3, ?_, ?_, h.eq ea fe3⟩
      · rw [f_X7_would, if_neg c1, if_pos c2, t1, z_bnd, u1, z_bnd, if_neg (by decide), if_pos (by decide), u2.n]
      · unfold f_X8_would
        simp only [in_eqI, l0, l2, hw0, and_self, if_true, z_bnd, one0, if_false, mBegin, w1, x1]
        rw [if_neg (by decide), if_pos (by decide), show nz_in 0 61 = true from rfl, z_chk, e0, hz3.n]
    · cases e : lme (dfs (mdN 12 G).2) (wrk (mdN 12 G).2 (dfs (mdN 12 G).2)) with
      | none =>
        rw [e] at kl ml
        refine ⟨1, a2, b3, ?_, ?_, h.eq ea fe3⟩
        · rw [f_X7_would, if_neg c1, if_pos c2, t1, z_bnd, u1, z_bnd, if_neg (by decide), if_neg (by decide), kl, z_bnd, oi_none, if_pos rfl]
        · unfold f_X8_would
          simp only [in_eqI, l0, l2, hw0, and_self, if_true, z_bnd, one0, if_false, mBegin, w1, x1, ml]
          rw [if_neg (by decide), if_neg (by decide), oi_none, if_pos rfl]
      | some w =>
        rw [e] at kl ml
        have hw := lme_lt hF hU e
        have h12 := hV'.1
        have n9 : ¬ nI w = -9 := z_m9 (by omega)
        refine ⟨0, a2, b3, ?_, ?_, h.eq ea fe3⟩
        · rw [f_X7_would, if_neg c1, if_pos c2, t1, z_bnd, u1, z_bnd, if_neg (by decide), if_neg (by decide), kl, z_bnd, oi_some, if_neg n9]
        · unfold f_X8_would
          simp only [in_eqI, l0, l2, hw0, and_self, if_true, z_bnd, one0, if_false, mBegin, w1, x1, ml]
          rw [if_neg (by decide), if_neg (by decide), oi_some, if_neg n9]
  · refine ⟨-2, a, nz_put b 0 0 0, ?_, ?_, h.eq (eK.rf a) em⟩
    · by_cases c1 : v < 0
      · rw [f_X7_would, if_pos c1]
      · have c2 : ¬ v ≤ 2 := by rw [fa_le, show (2 : Int32).toInt = 2 by decide]; rw [fa_lt, i0] at c1; omega
        rw [f_X7_would, if_neg c1, if_neg c2]
    · unfold f_X8_would
      simp only [in_eqI, l0, l2, hw, if_false, z_bnd, if_true]
