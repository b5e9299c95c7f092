/-! ===== one step by a choice ===== -/
def nx (G : zG) (b c : Nat) : Nat := if (G.2.2 b).length = 0 then b else (G.2.2 b).getD (c % (G.2.2 b).length) 0
theorem nx_lt {G : zG} (hV : zV G) {b : Nat} (hb : b < G.1) (c : Nat) : nx G b c < G.1 := by
  unfold nx
  by_cases h : (G.2.2 b).length = 0
  · rw [if_pos h]; exact hb
  · rw [if_neg h]; exact hV.t hb (Nat.mod_lt _ (by omega))
theorem kFol {x : nz_S} {G : zG} (hk : zK x 3 G) (hV : zV G) {b c : Nat} (hb : b < G.1) (hc : c < 100) : f_X0_follow 3 (nI b) (nI c) x = some (nI (nx G b c), x) := by
  have h12 := hV.1
  have hl := hV.l hb
  unfold f_X0_follow
  simp only [z_in (show b < 12 by omega) (by omega), z_chk, z_N (show b < 2147483648 by omega), hk.c hb]
  by_cases h : (G.2.2 b).length = 0
  · rw [if_pos (by rw [h]; rfl), nx, if_pos h]
  · have hn0 : ¬ nI (G.2.2 b).length = 0 := nI_nz0 (by omega) (by omega)
    have e1 : nI c - nI c / nI (G.2.2 b).length * nI (G.2.2 b).length = nI (c % (G.2.2 b).length) := pk_rem (by omega) (by omega) (by omega)
    rw [if_neg hn0, nz_ne hn0, z_chk, e1, kTG hk hV hb (Nat.mod_lt _ (by omega)), z_bnd, nx, if_neg h]
theorem mStp {y : nz_S} {G : zG} (hz : zM y 3 G) (hV : zV G) {b c : Nat} (hb : b < G.1) (hc : c < 100) : f_X8_step (nI b) (nI c) y = some (nI (nx G b c), y) := by
  have h12 := hV.1
  have hl := hV.l hb
  have e3 : (13 : Int32) + nI b = nI (13 + b) := by rw [show (13 : Int32) = nI 13 from rfl, nI_add]
  unfold f_X8_step
  simp only [e3, z_in (show 13 + b < 61 by omega) (by omega), z_chk, z_N (show 13 + b < 2147483648 by omega), hz.c hb]
  by_cases h : (G.2.2 b).length = 0
  · rw [if_pos (by rw [h]; rfl), nx, if_pos h]
  · have hn0 : ¬ nI (G.2.2 b).length = 0 := nI_nz0 (by omega) (by omega)
    have hm := Nat.mod_lt c (show 0 < (G.2.2 b).length by omega)
    have e1 : nI c - nI c / nI (G.2.2 b).length * nI (G.2.2 b).length = nI (c % (G.2.2 b).length) := pk_rem (by omega) (by omega) (by omega)
    have e5 : (25 : Int32) + 3 * nI b + nI (c % (G.2.2 b).length) = nI (25 + (3 * b + c % (G.2.2 b).length)) := by
      rw [show (25 : Int32) = nI 25 from rfl, show (3 : Int32) = nI 3 from rfl, pk_mul, nI_add, nI_add, Nat.add_assoc]
    rw [if_neg hn0, nz_ne hn0, z_chk, e1, e5, z_in (show 25 + (3 * b + c % (G.2.2 b).length) < 61 by omega) (by omega), z_chk, z_N (show 25 + (3 * b + c % (G.2.2 b).length) < 2147483648 by omega), hz.t hb hm, nx, if_neg h]
/-! ===== whether figures are choices ===== -/
def dg : Nat → Nat → Bool
  | 0, _ => true
  | k + 1, r => decide (r % 10 < 3) && dg k (r / 10)
theorem dg_0 : ∀ k, dg k 0 = true
  | 0 => rfl
  | k + 1 => by rw [dg]; simp [dg_0 k]
theorem dg_all : ∀ n r, dg n r = true ↔ ∀ k, k < n → r / 10 ^ k % 10 < 3
  | 0, r => ⟨fun _ k hk => absurd hk (Nat.not_lt_zero k), fun _ => rfl⟩
  | n + 1, r => by
    rw [dg, Bool.and_eq_true, decide_eq_true_iff, dg_all n (r / 10)]
    constructor
    · rintro ⟨h1, h2⟩ k hk
      cases k with
      | zero => rw [Nat.pow_zero, Nat.div_one]; exact h1
      | succ k =>
        have := h2 k (by omega)
        rw [Nat.div_div_eq_div_mul] at this
        rw [Nat.pow_succ, Nat.mul_comm]; exact this
    · intro h
      refine ⟨by have := h 0 (by omega); rw [Nat.pow_zero, Nat.div_one] at this; exact this, fun k hk => ?_⟩
      have := h (k + 1) (by omega)
      rw [Nat.pow_succ, Nat.mul_comm] at this
      rw [Nat.div_div_eq_div_mul]; exact this
theorem mCh_22 (x : nz_S) (K : Int32 → nz_S → Option (Int32 × nz_S)) : ∀ m r fu (s : Bool), r < 10 ^ m → r < 2147483648 → m < fu → f_X8_areChoices_22 fu (if s then 1 else 0) (nI r) x (fun u _ z => K u z) = K (if s && dg m r then 1 else 0) x
  | 0, r, fu + 1, s, hr, _, _ => by
    have : r = 0 := by rw [Nat.pow_zero] at hr; omega
    subst this
    rw [f_X8_areChoices_22, if_pos (by decide), dg, Bool.and_true]
  | m + 1, r, fu + 1, s, hr, hr2, hf => by
    by_cases h0 : r = 0
    · subst h0
      rw [f_X8_areChoices_22, if_pos (by decide), dg_0, Bool.and_true]
    · have e1 : nI r / 10 = nI (r / 10) := pk_div (d := 10) (by omega) (by omega) (by omega)
      have e2 : nI r - nI (r / 10) * 10 = nI (r % 10) := by rw [← e1]; exact pk_rem (d := 10) (by omega) (by omega) (by omega)
      have hd : r / 10 < 10 ^ m := by rw [Nat.pow_succ] at hr; omega
      have ih := fun s => mCh_22 x K m (r / 10) fu s hd (by omega) (by omega)
      rw [f_X8_areChoices_22, if_neg (by rw [show (0 : Int32) = nI 0 from rfl, z_le (by omega) (by omega)]; omega)]
      simp only [e1, e2]
      rw [dg]
      cases s with
      | false =>
        have := ih false
        simp only [Bool.false_eq_true, if_false, if_true, Bool.false_and] at this ⊢
        exact this
      | true =>
        simp only [if_true, one0, if_false, Bool.true_and]
        by_cases q : r % 10 < 3
        · rw [if_neg (by rw [show (3 : Int32) = nI 3 from rfl, z_le (by omega) (by omega)]; omega), decide_eq_true q, Bool.true_and]
          have := ih true
          simp only [if_true, Bool.true_and] at this
          exact this
        · rw [if_pos (by rw [show (3 : Int32) = nI 3 from rfl, z_le (by omega) (by omega)]; omega), decide_eq_false q, Bool.false_and]
          have := ih false
          simp only [Bool.false_eq_true, if_false, Bool.false_and] at this
          simp only [Bool.false_eq_true, if_false]
          exact this
theorem kCh_18 {n r : Nat} (hn : n ≤ 8) (hr : r < 2147483648) (x : nz_S) : ∀ m k fu, k + m = n → m < fu → (∀ j, j < k → r / 10 ^ j % 10 < 3) → f_X7_areChoices_18 (nI n) (nI r) fu (nI k) x (fun _ z => some (1, z)) = some (if dg n r then 1 else 0, x)
  | 0, k, fu + 1, e, _, h => by
    have : k = n := by omega
    subst this
    rw [f_X7_areChoices_18, if_pos ((z_le (by omega) (by omega)).mpr (Nat.le_refl _)), if_pos ((dg_all k r).mpr h)]
  | m + 1, k, fu + 1, e, hf, h => by
    have ih := kCh_18 hn hr x m (k + 1) fu (by omega) (by omega)
    have hd : r / 10 ^ k % 10 < 10 := Nat.mod_lt _ (by omega)
    rw [f_X7_areChoices_18, if_neg (by rw [z_le (by omega) (by omega)]; omega), nI_l (by omega), kFig (show r < 2 ^ 63 by omega) (by omega), z_bnd]
    simp only [nI_1]
    by_cases q : r / 10 ^ k % 10 < 3
    · rw [if_pos (by rw [show (2 : Int32) = nI 2 from rfl, z_le (by omega) (by omega)]; omega)]
      exact ih (fun j hj => by
        by_cases hjk : j = k
        · rw [hjk]; exact q
        · exact h j (by omega))
    · rw [if_neg (by rw [show (2 : Int32) = nI 2 from rfl, z_le (by omega) (by omega)]; omega), if_neg]
      intro e2
      exact q ((dg_all n r).mp e2 k (by omega))
theorem p10 : ∀ n, n < 9 → 10 ^ n < 2147483648 ∧ 0 < 10 ^ n := by decide +kernel
theorem chs {n : Nat} (hn : n ≤ 8) (w : Int32) : ∃ s : Bool, (∀ x, f_X7_areChoices (nI n) w x = some (if s then 1 else 0, x)) ∧ (∀ y, f_X8_areChoices (nI n) w y = some (if s then 1 else 0, y)) ∧ (s = true → ∃ r, r < 10 ^ n ∧ w = nI r) := by
  have hp := p10 n (by omega)
  by_cases hw : w < 0
  · refine ⟨false, fun x => ?_, fun y => ?_, fun q => by cases q⟩
    · rw [f_X7_areChoices, if_pos hw]; rfl
    · have hst : ∀ fu (K : Int32 → Int32 → nz_S → Option (Int32 × nz_S)), f_X8_areChoices_22 (fu + 1) 0 w y K = K 0 w y := fun fu K => by
        rw [f_X8_areChoices_22, if_pos (by rw [fa_le, i0]; rw [fa_lt, i0] at hw; omega)]
      rw [f_X8_areChoices, if_pos hw]
      refine (hst 999 _).trans ?_
      rfl
  · have hrg := fb_rng w
    have h1 : 0 ≤ w.toInt := by rw [fa_lt, i0] at hw; omega
    obtain ⟨r, hr, rfl⟩ := ib_ex (v := w) (n := 2147483648) ⟨h1, by omega⟩
    have m10 : f_X8_power 10 (nI n) = f_X8_power (nI 10) (nI n) := rfl
    by_cases hlt : r < 10 ^ n
    · refine ⟨dg n r, fun x => ?_, fun y => ?_, fun _ => ⟨r, hlt, rfl⟩⟩
      · rw [f_X7_areChoices, if_neg hw, kTens (by omega), z_bnd, nI_l (by omega), if_pos ((lc_lt _ _).mpr (by rw [pk_lLT (by omega) (by omega)]; exact hlt))]
        exact kCh_18 hn hr x n 0 nz_F (by omega) (by unfold nz_F; omega) (fun j hj => absurd hj (Nat.not_lt_zero j))
      · rw [f_X8_areChoices, if_neg hw, m10, mPw (by omega), z_bnd, if_neg (by rw [z_le hp.1 hr]; omega)]
        have := mCh_22 y (fun u z => nz_chk (nz_bo u) (some (u, z))) n r nz_F true hlt hr (by unfold nz_F; omega)
        rw [if_pos rfl, Bool.true_and] at this
        refine this.trans ?_
        rw [bo_if, z_chk]
    · refine ⟨false, fun x => ?_, fun y => ?_, fun q => by cases q⟩
      · rw [f_X7_areChoices, if_neg hw, kTens (by omega), z_bnd, nI_l (by omega), if_neg (fun q => hlt (by
          have := (lc_lt _ _).mp q
          rw [pk_lLT (by omega) (by omega)] at this
          exact this))]
        rfl
      · rw [f_X8_areChoices, if_neg hw, m10, mPw (by omega), z_bnd, if_pos ((z_le hp.1 hr).mpr (by omega))]
        have := mCh_22 y (fun u z => nz_chk (nz_bo u) (some (u, z))) 10 r nz_F false (by omega) hr (by unfold nz_F; omega)
        rw [if_neg (by decide), Bool.false_and] at this
        refine this.trans ?_
        rfl
/-! ===== a RUN ===== -/
def rnN (G : zG) (r : Nat) : Nat → Nat → Nat
  | 0, b => b
  | k + 1, b => rnN G r k (nx G b (r / 10 ^ k % 10))
theorem rnN_lt {G : zG} (hV : zV G) (r : Nat) : ∀ k b, b < G.1 → rnN G r k b < G.1
  | 0, b, h => h
  | k + 1, b, h => rnN_lt hV r k _ (nx_lt hV h _)
theorem kRun_51 {G : zG} (hV : zV G) {x : nz_S} (hk : zK x 3 G) {r : Nat} (hr : r < 2147483648) (c3 : Int32) (K : Int32 → nz_S → Option (Int32 × nz_S)) : ∀ k fu b, k ≤ 8 → k < fu → b < G.1 → f_X7_run_51 (nI r) c3 fu (nI b) (nI k - 1) x (fun u _ z => K u z) = K (nI (rnN G r k b)) x
  | 0, fu + 1, b, _, _, hb => by rw [f_X7_run_51, show nI 0 - 1 = (-1 : Int32) by decide, if_pos (by decide)]; rfl
  | k + 1, fu + 1, b, hk8, hf, hb => by
    have ih := kRun_51 hV hk hr c3 K k fu (nx G b (r / 10 ^ k % 10)) (by omega) (by omega) (nx_lt hV hb _)
    have hd : r / 10 ^ k % 10 < 10 := Nat.mod_lt _ (by omega)
    rw [f_X7_run_51, nI_s1 k (by omega), if_neg (nI_pos (by omega)), nI_l (by omega), kFig (show r < 2 ^ 63 by omega) (by omega), z_bnd, kFol hk hV hb (by omega), z_bnd]
    simp only [sub1]
    exact ih
theorem mRun_7 {G : zG} (hV : zV G) {y : nz_S} (hz : zM y 3 G) {r : Nat} (hr : r < 2147483648) (K : Int32 → nz_S → Option (Int32 × nz_S)) : ∀ k fu b, k ≤ 8 → k < fu → b < G.1 → f_X8_runs_7 (nI r) fu (nI b) (nI k - 1) y (fun u _ z => K u z) = K (nI (rnN G r k b)) y
  | 0, fu + 1, b, _, _, hb => by rw [f_X8_runs_7, show nI 0 - 1 = (-1 : Int32) by decide, if_pos (by decide)]; rfl
  | k + 1, fu + 1, b, hk8, hf, hb => by
    have ih := mRun_7 hV hz hr K k fu (nx G b (r / 10 ^ k % 10)) (by omega) (by omega) (nx_lt hV hb _)
    have hd : r / 10 ^ k % 10 < 10 := Nat.mod_lt _ (by omega)
    have hp := p10 k (by omega)
    have hn0 := nI_nz0 hp.2 hp.1
    have e1 : nI r / nI (10 ^ k) = nI (r / 10 ^ k) := pk_div (by omega) hp.2 (by omega)
    have hdl : r / 10 ^ k < 2147483648 := Nat.lt_of_le_of_lt (Nat.div_le_self _ _) hr
    have e2 : nI (r / 10 ^ k) - nI (r / 10 ^ k) / 10 * 10 = nI (r / 10 ^ k % 10) := pk_rem (d := 10) (by omega) (by omega) (by omega)
    have m10 : f_X8_power 10 (nI k) y = f_X8_power (nI 10) (nI k) y := rfl
    rw [f_X8_runs_7, nI_s1 k (by omega), if_neg (nI_pos (by omega)), m10, mPw (by omega), z_bnd, nz_ne hn0, z_chk]
    simp only [e1, e2, mStp hz hV hb (show r / 10 ^ k % 10 < 100 by omega), z_bnd, sub1]
    exact ih
theorem l8 : (8 : Int64).toInt = 8 := by decide
theorem sim_run (v w u : Int32) (a b : nz_S) (h : zR a b) : nz_both zR (f_X7_run v w u a) (f_X8_run v w u b) := by
  obtain ⟨-, ⟨G, hV, hk, hm⟩, -⟩ := id h
  have hk : zK a 3 G := hk
  have hm : zM b 3 G := hm
  have h12 := hV.1
  have em : eM b (nz_put b 0 0 0) := eM_put0 _ _ _ (by omega)
  have hm0 : zM (nz_put b 0 0 0) 3 G := zM_eq hm (em.1 3 (by omega))
  have e0 : ((0 : Int32)).toNatClampNeg = 0 := rfl
  by_cases hG : G.1 = 0
  · refine ⟨-3, a, nz_put b 0 0 0, ?_, ?_, h.eq (eK.rf a) em⟩
    · rw [f_X7_run, hk.n, if_pos (by rw [hG]; rfl)]
    · unfold f_X8_run
      simp only [show nz_in 0 61 = true from rfl, z_chk, e0, hm0.n]
      rw [if_pos (by rw [hG]; rfl)]
  have g0 : ¬ nI G.1 = 0 := nI_nz0 (by omega) (by omega)
  by_cases hn : 0 ≤ v.toInt ∧ v.toInt ≤ 8
  · have hn0 := hn
    obtain ⟨n, hn9, rfl⟩ := ib_ex (v := v) (n := 9) ⟨hn.1, by omega⟩
    have c1 : ¬ nI n < 0 := nI_pos (by omega)
    have c2 : ¬ (8 : Int32) < nI n := by rw [show (8 : Int32) = nI 8 from rfl, z_lt (by omega) (by omega)]; omega
    have qi : f_X8_in (nI n).toInt64 0 8 (nz_put b 0 0 0) = some (1, nz_put b 0 0 0) := by rw [in_eqI, l0, l8, if_pos hn0]
    obtain ⟨s, s1, s2, s3⟩ := chs (n := n) (by omega) w
    cases s with
    | false =>
      refine ⟨-2, a, nz_put b 0 0 0, ?_, ?_, h.eq (eK.rf a) em⟩
      · rw [f_X7_run, hk.n, if_neg g0, if_neg c1, if_neg c2, s1, z_bnd, if_pos (by decide)]
      · unfold f_X8_run
        simp only [show nz_in 0 61 = true from rfl, z_chk, e0, hm0.n, g0, if_false, qi, z_bnd, one0, s2, Bool.false_eq_true, if_true]
    | true =>
      obtain ⟨r, hr, rfl⟩ := s3 rfl
      have hp := p10 n (by omega)
      by_cases hu : 0 ≤ u.toInt ∧ u.toInt ≤ 1
      · have hu0 := hu
        obtain ⟨k, hk2, rfl⟩ := ib_ex (v := u) (n := 2) ⟨hu.1, by omega⟩
        have d1 : ¬ nI k < 0 := nI_pos (by omega)
        have d2 : nI k ≤ 1 := (z_le (b := 1) (by omega) (by omega)).mpr (by omega)
        have qu : f_X8_in (nI k).toInt64 0 1 (nz_put b 0 0 0) = some (1, nz_put b 0 0 0) := by rw [in_eqI, l0, l1, if_pos hu0]
        have hb := rnN_lt hV r n 0 (by omega)
        have e1p : (1 : Int32) + nI (rnN G r n 0) = nI (1 + rnN G r n 0) := by rw [show (1 : Int32) = nI 1 from rfl, nI_add]
        have w1 := kRun_51 hV hk (r := r) (by omega) (nI k) (fun u20 x19 => if nI k = 0 then some (u20, x19) else nz_chk (nz_in u20 12) (some ((x19.1 4 (u20).toNatClampNeg), x19))) n nz_F 0 (by omega) (by unfold nz_F; omega) (by omega)
        have w2 := mRun_7 hV hm0 (r := r) (by omega) (fun u z => some (u, z)) n nz_F 0 (by omega) (by unfold nz_F; omega) (by omega)
        rw [nI_0] at w1 w2
        have kc : f_X7_run (nI n) (nI r) (nI k) a = if nI k = 0 then some (nI (rnN G r n 0), a) else some (a.1 4 (rnN G r n 0), a) := by
          rw [f_X7_run, hk.n, if_neg g0, if_neg c1, if_neg c2, s1, z_bnd, if_neg (by decide), if_neg d1, if_pos d2]
          refine w1.trans ?_
          rw [z_in (show rnN G r n 0 < 12 by omega) (by omega), z_chk, z_N (show rnN G r n 0 < 2147483648 by omega)]
        have mc : f_X8_run (nI n) (nI r) (nI k) b = if nI k = 0 then some (nI (rnN G r n 0), nz_put b 0 0 0) else some ((nz_put b 0 0 0).1 3 (1 + rnN G r n 0), nz_put b 0 0 0) := by
          unfold f_X8_run
          simp only [show nz_in 0 61 = true from rfl, z_chk, e0, hm0.n, g0, if_false, qi, z_bnd, one0, s2, if_true, qu]
          unfold f_X8_runs
          simp only []
          rw [w2, z_bnd, e1p, z_in (show 1 + rnN G r n 0 < 61 by omega) (by omega), z_chk, z_N (show 1 + rnN G r n 0 < 2147483648 by omega)]
        rw [kc, mc]
        by_cases k0 : nI k = 0
        · rw [if_pos k0, if_pos k0]
          exact ⟨_, a, nz_put b 0 0 0, rfl, rfl, h.eq (eK.rf a) em⟩
        · rw [if_neg k0, if_neg k0, show a.1 4 (rnN G r n 0) = G.2.1 (rnN G r n 0) from hk.a hb, hm0.a hb]
          exact ⟨_, a, nz_put b 0 0 0, rfl, rfl, h.eq (eK.rf a) em⟩
      · refine ⟨-2, a, nz_put b 0 0 0, ?_, ?_, h.eq (eK.rf a) em⟩
        · rw [f_X7_run, hk.n, if_neg g0, if_neg c1, if_neg c2, s1, z_bnd, if_neg (by decide)]
          by_cases d1 : u < 0
          · rw [if_pos d1]
          · have d2 : ¬ u ≤ 1 := by rw [fa_le, i1]; rw [fa_lt, i0] at d1; omega
            rw [if_neg d1, if_neg d2]
        · have qu : f_X8_in u.toInt64 0 1 (nz_put b 0 0 0) = some (0, nz_put b 0 0 0) := by rw [in_eqI, l0, l1, if_neg hu]
          unfold f_X8_run
          simp only [show nz_in 0 61 = true from rfl, z_chk, e0, hm0.n, g0, if_false, qi, z_bnd, one0, s2, if_true, qu]
  · refine ⟨-2, a, nz_put b 0 0 0, ?_, ?_, h.eq (eK.rf a) em⟩
    · rw [f_X7_run, hk.n, if_neg g0]
      by_cases c1 : v < 0
      · rw [if_pos c1]
      · have c2 : (8 : Int32) < v := by rw [fa_lt, show (8 : Int32).toInt = 8 by decide]; rw [fa_lt, i0] at c1; omega
        rw [if_neg c1, if_pos c2]
    · unfold f_X8_run
      simp only [show nz_in 0 61 = true from rfl, z_chk, e0, hm0.n, g0, if_false, in_eqI, l0, l8, hn, z_bnd, if_true]
