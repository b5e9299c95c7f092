/-! ===== some arcs of a block stay ===== -/
theorem bitN (m : Nat) {k : Nat} (hk : k < 32) : (nI m >>> (nI k &&& 31)) &&& 1 = if m.testBit k then 1 else 0 := by rw [bit_G _ hk, bt_nI _ hk]
theorem bitN0 (m : Nat) {k : Nat} (hk : k < 32) : ((nI m >>> (nI k &&& 31)) &&& 1 = 0) ↔ m.testBit k = false := by
  rw [bitN m hk]
  cases m.testBit k <;> decide
theorem mHasN (m : Nat) {k : Nat} (hk : k < 32) (x : nz_S) : f_X8_has (nI m) (nI k) x = some (if m.testBit k then 1 else 0, x) := by
  unfold f_X8_has
  rw [bitN m hk]
  cases m.testBit k <;> rfl
def kp (G : zG) (b m : Nat) : zG := gSet G b (wl (fun i => m.testBit i) (G.2.2 b) (G.2.2 b).length)
theorem wl_V {G : zG} (hV : zV G) {b : Nat} (hb : b < G.1) (s : Nat → Bool) {i : Nat} (hi : i ≤ (G.2.2 b).length) : zV (gSet G b (wl s (G.2.2 b) i)) :=
  gSet_V hV (Nat.le_trans (wl_len _ _ _) (Nat.le_trans hi (hV.l hb))) (fun t ht => (hV.2 b hb).2 t (wl_mem _ hi ht))
theorem kp_V {G : zG} (hV : zV G) {b : Nat} (hb : b < G.1) (m : Nat) : zV (kp G b m) := wl_V hV hb _ (Nat.le_refl _)
theorem mKp_16 {G : zG} (hV : zV G) {b : Nat} (hb : b < G.1) (m : Nat) (K : Int32 → nz_S → Option (Unit × nz_S)) : ∀ r i fu (y : nz_S), i + r = (G.2.2 b).length → r < fu → zM y 3 G → zM y 4 (gSet G b (wl (fun i => m.testBit i) (G.2.2 b) i)) → ∃ y', f_X8_keepArcs_16 (nI b) (nI m) fu (nI i) y K = K (nI (G.2.2 b).length) y' ∧ zM y' 4 (kp G b m) ∧ (∀ c, c ≠ 4 → y'.1 c = y.1 c) ∧ y'.2 = y.2
  | 0, i, fu + 1, y, e, _, h3, h4 => by
    have h12 := hV.1
    have hl := hV.l hb
    have e3 : (13 : Int32) + nI b = nI (13 + b) := by rw [show (13 : Int32) = nI 13 from rfl, nI_add]
    have : i = (G.2.2 b).length := by omega
    subst this
    refine ⟨y, ?_, h4, fun _ _ => rfl, rfl⟩
    rw [f_X8_keepArcs_16]
    simp only [e3, z_in (show 13 + b < 61 by omega) (by omega), z_chk, z_N (show 13 + b < 2147483648 by omega), h3.c hb]
    rw [if_pos ((z_le (by omega) (by omega)).mpr (Nat.le_refl _))]
  | r + 1, i, fu + 1, y, e, hf, h3, h4 => by
    have h12 := hV.1
    have hl := hV.l hb
    have hil : i < (G.2.2 b).length := by omega
    have e3 : (13 : Int32) + nI b = nI (13 + b) := by rw [show (13 : Int32) = nI 13 from rfl, nI_add]
    have e5 : (25 : Int32) + 3 * nI b + nI i = nI (25 + (3 * b + i)) := by
      rw [show (25 : Int32) = nI 25 from rfl, show (3 : Int32) = nI 3 from rfl, pk_mul, nI_add, nI_add, Nat.add_assoc]
    rw [f_X8_keepArcs_16]
    simp only [e3, z_in (show 13 + b < 61 by omega) (by omega), z_chk, z_N (show 13 + b < 2147483648 by omega), h3.c hb]
    rw [if_neg (by rw [z_le (by omega) (by omega)]; omega), mHasN m (show i < 32 by omega), z_bnd]
    simp only [nI_1, e5, z_in (show 25 + (3 * b + i) < 61 by omega) (by omega), z_chk, z_N (show 25 + (3 * b + i) < 2147483648 by omega), h3.t hb hil]
    cases hs : m.testBit i with
    | false =>
      simp only [Bool.false_eq_true, if_false, if_true]
      exact mKp_16 hV hb m K r (i + 1) fu y (by omega) (by omega) h3 (by rw [wl, hs, if_neg (by decide)]; exact h4)
    | true =>
      simp only [if_true, one0, if_false]
      have hlen := wl_len (fun i => m.testBit i) (G.2.2 b) i
      have hVi := wl_V hV hb (fun i => m.testBit i) (i := i) (by omega)
      have hli : ((gSet G b (wl (fun i => m.testBit i) (G.2.2 b) i)).2.2 b).length < 3 := by rw [gSet_b]; omega
      obtain ⟨u1, u2⟩ := mAddG h4 hVi (b := b) (t := (G.2.2 b).getD i 0) hb hli
      have hg : gAdd (gSet G b (wl (fun i => m.testBit i) (G.2.2 b) i)) b ((G.2.2 b).getD i 0) = gSet G b (wl (fun i => m.testBit i) (G.2.2 b) (i + 1)) := by
        show gSet (gSet G b (wl (fun i => m.testBit i) (G.2.2 b) i)) b ((gSet G b (wl (fun i => m.testBit i) (G.2.2 b) i)).2.2 b ++ [(G.2.2 b).getD i 0]) = _
        rw [gSet2, gSet_b]
        conv => rhs; rw [wl, hs, if_pos rfl]
      rw [hg] at u2
      rw [u1, z_bnd]
      obtain ⟨y2, hy2⟩ : ∃ y2, y2 = nz_put (nz_put y 4 (25 + (3 * b + ((gSet G b (wl (fun i => m.testBit i) (G.2.2 b) i)).2.2 b).length)) (nI ((G.2.2 b).getD i 0))) 4 (13 + b) (nI (((gSet G b (wl (fun i => m.testBit i) (G.2.2 b) i)).2.2 b).length + 1)) := ⟨_, rfl⟩
      rw [← hy2] at u2 ⊢
      have o2 : ∀ c, c ≠ 4 → y2.1 c = y.1 c := fun c hc => by rw [hy2, z_put1, if_neg hc, z_put1, if_neg hc]
      obtain ⟨y', w1, w2, w3, w4⟩ := mKp_16 hV hb m K r (i + 1) fu y2 (by omega) (by omega) (zM_eq h3 (o2 3 (by omega))) u2
      exact ⟨y', w1, w2, fun c hc => by rw [w3 c hc, o2 c hc], by rw [w4, hy2]; rfl⟩
theorem mKp {G : zG} (hV : zV G) {b : Nat} (hb : b < G.1) (m : Nat) {y : nz_S} (h3 : zM y 3 G) : ∃ y', f_X8_keepArcs (nI b) (nI m) y = some ((), y') ∧ zM y' 4 (kp G b m) ∧ (∀ c, c ≠ 4 → y'.1 c = y.1 c) ∧ y'.2 = y.2 := by
  have h12 := hV.1
  have hl := hV.l hb
  have e3 : (13 : Int32) + nI b = nI (13 + b) := by rw [show (13 : Int32) = nI 13 from rfl, nI_add]
  obtain ⟨g1, g2, g3⟩ := begin_M hV h3
  obtain ⟨y6, hy6⟩ : ∃ y6, y6 = nz_put (zcp y 3 0 4 0 61) 4 (13 + b) 0 := ⟨_, rfl⟩
  have o6 : ∀ c, c ≠ 4 → y6.1 c = y.1 c := fun c hc => by rw [hy6, z_put1, if_neg hc, zcp_o _ hc]
  have h4 : zM y6 4 (gSet G b (wl (fun i => m.testBit i) (G.2.2 b) 0)) := by
    refine mSetG g1 hb ?_ (fun i hi => by simp [wl] at hi) (fun k hk _ => ?_) hV
    · rw [hy6, z_put1, if_pos rfl, z_upd, if_pos rfl]; rfl
    · rw [hy6, z_put1, if_pos rfl, z_upd, if_neg hk]
  obtain ⟨y', w1, w2, w3, w4⟩ := mKp_16 hV hb m (fun _ x21 => some ((), x21)) (G.2.2 b).length 0 nz_F y6 (by omega) (by unfold nz_F; omega) (zM_eq h3 (o6 3 (by omega))) h4
  rw [nI_0] at w1
  refine ⟨y', ?_, w2, fun c hc => by rw [w3 c hc, o6 c hc], by rw [w4, hy6]; rfl⟩
  unfold f_X8_keepArcs
  rw [mBegin, z_bnd]
  simp only [e3, z_in (show 13 + b < 61 by omega) (by omega), z_chk, z_N (show 13 + b < 2147483648 by omega)]
  rw [← hy6]
  exact w1
theorem kSwa {G : zG} (hV : zV G) {b : Nat} (hb : b < G.1) (m : Nat) {x : nz_S} (hk : zK x 3 G) : ∃ x', f_X7_surveyWithArcs (nI b) (nI m) x = some ((), x') ∧ kS x' (kp G b m) (dfs (kp G b m)) (wrk (kp G b m) (dfs (kp G b m))) ∧ eK x x' ∧ zK x' 3 G := by
  obtain ⟨a1, t1, t2, t3, t4⟩ := kTry hV hk
  obtain ⟨y, y1, y2, y3, y4⟩ := kKeep t2 hV hb (m := nI m) (s := fun i => m.testBit i) (fun i hi => bitN0 m (by omega))
  obtain ⟨z, r1, r2, r3⟩ := kRead (g := 7) (by omega) (kp_V hV hb m) y2
  have ee : eK x z := (t4.tr ⟨fun d hd => y3 d (by omega) (by omega), y4⟩).tr r3.eK
  refine ⟨z, ?_, r2, ee, zK_eq hk (fun c hc => ee.1 c (by omega))⟩
  unfold f_X7_surveyWithArcs
  rw [t1, z_bnd, y1, z_bnd, r1, z_bnd]
def lp (G : zG) (b m : Nat) : Nat := cts (wrk (kp G b m) (dfs (kp G b m))) 1
theorem kLwa {G : zG} (hV : zV G) {b : Nat} (hb : b < G.1) (m : Nat) {x : nz_S} (hk : zK x 3 G) : ∃ x', f_X7_loopsWithArcs (nI b) (nI m) x = some (nI (lp G b m), x') ∧ eK x x' ∧ zK x' 3 G := by
  obtain ⟨x', h1, h2, h3, h4⟩ := kSwa hV hb m hk
  have hU := wrk_U (dfs_F (kp_V hV hb m))
  refine ⟨x', ?_, h3, h4⟩
  unfold f_X7_loopsWithArcs
  rw [h1, z_bnd, kCt h2.2.2.2.2.2.2.1 hU.2.2.1, z_bnd]
  rfl
/-! ===== small numbers ===== -/
def fac : Nat → Nat
  | 0 => 1
  | n + 1 => (n + 1) * fac n
def pc (m : Nat) : Nat := sumN (fun j => if m.testBit j then 1 else 0) 12
theorem kFac {k : Nat} (hk : k ≤ 3) (x : nz_S) : f_X7_factorial (nI k) x = some (nI (fac k), x) := by
  have L : ∀ fu (K : Int32 → Int32 → nz_S → Option (Int32 × nz_S)), f_X7_factorial_4 (nI k) (fu + 4) 1 1 x K = K (nI (fac k)) (if k ≤ 1 then 1 else nI k) x := by
    intro fu K
    rcases (show k = 0 ∨ k = 1 ∨ k = 2 ∨ k = 3 by omega) with rfl | rfl | rfl | rfl
    · rw [f_X7_factorial_4, if_pos (by decide)]; rfl
    · rw [f_X7_factorial_4, if_pos (by decide)]; rfl
    · rw [f_X7_factorial_4, if_neg (by decide), f_X7_factorial_4, if_pos (by decide)]; rfl
    · rw [f_X7_factorial_4, if_neg (by decide), f_X7_factorial_4, if_neg (by decide), f_X7_factorial_4, if_pos (by decide)]; rfl
  exact L 996 (fun u5 _ x4 => some (u5, x4))
theorem mWay {k : Nat} (hk : k ≤ 3) (x : nz_S) : f_X8_ways (nI k) x = some (nI (fac k), x) := by
  have L : ∀ fu (K : Int32 → Int32 → nz_S → Option (Int32 × nz_S)), f_X8_ways_4 (nI k) (fu + 4) 1 2 x K = K (nI (fac k)) (if k ≤ 1 then 2 else nI (k + 1)) x := by
    intro fu K
    rcases (show k = 0 ∨ k = 1 ∨ k = 2 ∨ k = 3 by omega) with rfl | rfl | rfl | rfl
    · rw [f_X8_ways_4, if_pos (by decide)]; rfl
    · rw [f_X8_ways_4, if_pos (by decide)]; rfl
    · rw [f_X8_ways_4, if_neg (by decide), f_X8_ways_4, if_pos (by decide)]; rfl
    · rw [f_X8_ways_4, if_neg (by decide), f_X8_ways_4, if_neg (by decide), f_X8_ways_4, if_pos (by decide)]; rfl
  exact L 996 (fun u5 _ x4 => some (u5, x4))
theorem mPw_4 {a k : Nat} (hk : k < 1000) (x : nz_S) (K : Int32 → Int32 → nz_S → Option (Int32 × nz_S)) : ∀ n i fu, i + n = k → n < fu → f_X8_power_4 (nI a) (nI k) fu (nI (a ^ i)) (nI i) x K = K (nI (a ^ k)) (nI k) x
  | 0, i, fu + 1, e, _ => by
    have : i = k := by omega
    subst this
    rw [f_X8_power_4, if_pos ((z_le (by omega) (by omega)).mpr (Nat.le_refl _))]
  | n + 1, i, fu + 1, e, hf => by
    have ih := mPw_4 (a := a) hk x K n (i + 1) fu (by omega) (by omega)
    rw [f_X8_power_4, if_neg (by rw [z_le (by omega) (by omega)]; omega)]
    simp only [pk_mul, nI_1]
    rw [Nat.pow_succ] at ih
    exact ih
theorem mPw {a k : Nat} (hk : k < 900) (x : nz_S) : f_X8_power (nI a) (nI k) x = some (nI (a ^ k), x) := by
  have := mPw_4 (a := a) (show k < 1000 by omega) x (fun u5 _ x4 => some (u5, x4)) k 0 nz_F (by omega) (by unfold nz_F; omega)
  rw [Nat.pow_zero, nI_0] at this
  exact this
theorem kPw_4 (a c : Int32) (K : Int32 → Int32 → nz_S → Option (Int32 × nz_S)) : ∀ fu (u v : Int32) (x : nz_S), f_X7_power_4 a c fu u v x K = f_X8_power_4 a c fu u v x K
  | 0, _, _, _ => rfl
  | fu + 1, u, v, x => by
    rw [f_X7_power_4, f_X8_power_4]
    by_cases h : c ≤ v
    · rw [if_pos h, if_pos h]
    · rw [if_neg h, if_neg h]
      exact kPw_4 a c K fu _ _ x
theorem kPw {a k : Nat} (hk : k < 900) (x : nz_S) : f_X7_power (nI a) (nI k) x = some (nI (a ^ k), x) := (kPw_4 (nI a) (nI k) (fun u5 _ x4 => some (u5, x4)) nz_F 1 0 x).trans (mPw hk x)
theorem mMany_4 (m : Nat) (x : nz_S) (K : Int32 → Int32 → nz_S → Option (Int32 × nz_S)) : ∀ r k fu, k + r = 12 → r < fu → f_X8_many_4 (nI m) fu (nI (sumN (fun j => if m.testBit j then 1 else 0) k)) (nI k) x K = K (nI (pc m)) (nI 12) x
  | 0, k, fu + 1, e, _ => by
    have : k = 12 := by omega
    subst this
    rw [f_X8_many_4, if_pos ge12]; rfl
  | r + 1, k, fu + 1, e, hf => by
    have ih := mMany_4 m x K r (k + 1) fu (by omega) (by omega)
    rw [sumN] at ih
    rw [f_X8_many_4, if_neg (lt12 (by omega))]
    simp only [bitN m (show k < 32 by omega), nI_1]
    cases q : m.testBit k with
    | false =>
      rw [q] at ih
      simp only [Bool.false_eq_true, if_false, Nat.add_zero, nI_a0] at ih ⊢
      exact ih
    | true =>
      rw [q] at ih
      simp only [if_true, nI_1] at ih ⊢
      exact ih
theorem mMany (m : Nat) (x : nz_S) : f_X8_many (nI m) x = some (nI (pc m), x) := mMany_4 m x (fun u5 _ x4 => some (u5, x4)) 12 0 nz_F (by omega) (by unfold nz_F; omega)
theorem kBc {m : Nat} (hm : m < 8) (x : nz_S) : f_J6_bitCount_0f7a4 (nI m) x = some (nI (pc m), x) := by
  rcases (show m = 0 ∨ m = 1 ∨ m = 2 ∨ m = 3 ∨ m = 4 ∨ m = 5 ∨ m = 6 ∨ m = 7 by omega) with rfl | rfl | rfl | rfl | rfl | rfl | rfl | rfl
  all_goals
    unfold f_J6_bitCount_0f7a4
    simp only []
    refine congrArg (fun z => some (z, x)) ?_
    decide +kernel
theorem pc_le : ∀ n, n < 4 → ∀ m, m < 2 ^ n → pc m ≤ n := by decide +kernel
theorem pc_lt : ∀ n, n < 4 → ∀ m, m < 2 ^ n → ∀ i, i < n → m.testBit i = false → pc m + 1 ≤ n := by decide +kernel
theorem or_bit : ∀ m, m < 8 → ∀ i, i < 3 → (nI m ||| ((1 : Int32) <<< (nI i &&& 31)) = nI (m ||| 2 ^ i)) := by decide +kernel
theorem or_lt : ∀ n, n < 4 → ∀ m, m < 2 ^ n → ∀ i, i < n → m ||| 2 ^ i < 2 ^ n := by decide +kernel
theorem shl_n : ∀ n, n < 4 → ((1 : Int32) <<< (nI n &&& 31) = nI (2 ^ n)) := by decide +kernel
theorem pw8 : ∀ n, n < 4 → 2 ^ n ≤ 8 := by decide +kernel
/-! ===== least terms ===== -/
theorem nz_ne {v : Int32} (h : ¬ v = 0) : (v != 0) = true := bne_iff_ne.mpr h
theorem nI_nz0 {n : Nat} (h0 : 0 < n) (h : n < 2147483648) : ¬ nI n = 0 := by
  rw [show (0 : Int32) = nI 0 from rfl, z_eq h (by omega)]; omega
theorem lt64 {j : Nat} (h : j < 64) : ¬ (64 : Int32) ≤ nI j := by
  rw [show (64 : Int32) = nI 64 from rfl, z_le (by omega) (by omega)]; omega
theorem eucl : ∀ k p q i f1 f2 (x y : nz_S), q < 2 ^ k → p < 2147483648 → q < 2147483648 → 2 * k + i < 64 → 2 * k < f1 → 2 * k < f2 → (0 < p ∨ 0 < q) → ∃ g, 0 < g ∧ g < 2147483648 ∧ f_X7_greatestDivisor_2 f1 (nI p) (nI q) (nI i) x (fun u _ _ z => some (u, z)) = some (nI g, x) ∧ f_X8_divisor_13 f2 (nI p) (nI q) y (fun u _ z => some (u, z)) = some (nI g, y)
  | 0, p, q, i, f1 + 1, f2 + 1, x, y, hq, hp, _, hi, _, _, h0 => by
    have : q = 0 := by omega
    subst this
    refine ⟨p, by omega, hp, ?_, ?_⟩
    · rw [f_X7_greatestDivisor_2, if_neg (lt64 (by omega)), if_pos nI_0]
    · rw [f_X8_divisor_13, if_pos nI_0]
  | k + 1, p, q, i, f1 + 2, f2 + 2, x, y, hq, hp, hq2, hi, hf1, hf2, h0 => by
    by_cases hq0 : q = 0
    · subst hq0
      refine ⟨p, by omega, hp, ?_, ?_⟩
      · rw [f_X7_greatestDivisor_2, if_neg (lt64 (by omega)), if_pos nI_0]
      · rw [f_X8_divisor_13, if_pos nI_0]
    · have nq := nI_nz0 (show 0 < q by omega) hq2
      have e1 : nI p - nI p / nI q * nI q = nI (p % q) := pk_rem (by omega) (by omega) (by omega)
      have hr := Nat.mod_lt p (show 0 < q by omega)
      have a1 : f_X7_greatestDivisor_2 (f1 + 2) (nI p) (nI q) (nI i) x (fun u _ _ z => some (u, z)) = f_X7_greatestDivisor_2 (f1 + 1) (nI q) (nI (p % q)) (nI (i + 1)) x (fun u _ _ z => some (u, z)) := by
        rw [f_X7_greatestDivisor_2, if_neg (lt64 (by omega)), if_neg nq]
        simp only [nz_ne nq, z_chk, e1, nI_1]
      have b1 : f_X8_divisor_13 (f2 + 2) (nI p) (nI q) y (fun u _ z => some (u, z)) = f_X8_divisor_13 (f2 + 1) (nI q) (nI (p % q)) y (fun u _ z => some (u, z)) := by
        rw [f_X8_divisor_13, if_neg nq]
        simp only [nz_ne nq, z_chk, e1]
      rw [a1, b1]
      by_cases hr0 : p % q = 0
      · rw [hr0]
        refine ⟨q, by omega, hq2, ?_, ?_⟩
        · rw [f_X7_greatestDivisor_2, if_neg (lt64 (by omega)), if_pos nI_0]
        · rw [f_X8_divisor_13, if_pos nI_0]
      · have nr := nI_nz0 (show 0 < p % q by omega) (by omega)
        have e2 : nI q - nI q / nI (p % q) * nI (p % q) = nI (q % (p % q)) := pk_rem (by omega) (by omega) (by omega)
        have hr2 := Nat.mod_lt q (show 0 < p % q by omega)
        have a2 : f_X7_greatestDivisor_2 (f1 + 1) (nI q) (nI (p % q)) (nI (i + 1)) x (fun u _ _ z => some (u, z)) = f_X7_greatestDivisor_2 f1 (nI (p % q)) (nI (q % (p % q))) (nI (i + 1 + 1)) x (fun u _ _ z => some (u, z)) := by
          rw [f_X7_greatestDivisor_2, if_neg (lt64 (by omega)), if_neg nr]
          simp only [nz_ne nr, z_chk, e2, nI_1]
        have b2 : f_X8_divisor_13 (f2 + 1) (nI q) (nI (p % q)) y (fun u _ z => some (u, z)) = f_X8_divisor_13 f2 (nI (p % q)) (nI (q % (p % q))) y (fun u _ z => some (u, z)) := by
          rw [f_X8_divisor_13, if_neg nr]
          simp only [nz_ne nr, z_chk, e2]
        rw [a2, b2]
        have half : q % (p % q) < 2 ^ k := by
          have h1 : p % q + q % (p % q) ≤ q := by
            have h2 := Nat.div_add_mod q (p % q)
            have h3 : 1 ≤ q / (p % q) := (Nat.one_le_div_iff (by omega)).mpr (by omega)
            have h4 : p % q * 1 ≤ p % q * (q / (p % q)) := Nat.mul_le_mul_left _ h3
            omega
          rw [Nat.pow_succ] at hq
          omega
        exact eucl k (p % q) (q % (p % q)) (i + 1 + 1) f1 f2 x y half (by omega) (by omega) (by omega) (by omega) (by omega) (Or.inl (by omega))
theorem eucN {p q : Nat} (hp : p < 2147483648) (hq : 0 < q) (hq2 : q < 1024) (x y : nz_S) : ∃ g : Int32, ¬ g = 0 ∧ f_X7_greatestDivisor (nI p) (nI q) x = some (g, x) ∧ f_X8_divisor_13 nz_F (nI p) (nI q) y (fun u _ z => some (u, z)) = some (g, y) := by
  obtain ⟨g, g1, g2, g3, g4⟩ := eucl 10 p q 0 nz_F nz_F x y (by omega) hp (by omega) (by omega) (by unfold nz_F; omega) (by unfold nz_F; omega) (Or.inr hq)
  rw [nI_0] at g3
  exact ⟨nI g, nI_nz0 g1 g2, g3, g4⟩
theorem eucM {q : Nat} (hq : q = 1 ∨ q = 2 ∨ q = 6) (x y : nz_S) : ∃ g : Int32, ¬ g = 0 ∧ f_X7_greatestDivisor (-2147483648) (nI q) x = some (g, x) ∧ f_X8_divisor_13 nz_F (-2147483648) (nI q) y (fun u _ z => some (u, z)) = some (g, y) := by
  have s1 : ∀ fu (a b i r : Int32), ¬ (64 : Int32) ≤ i → ¬ b = 0 → a - a / b * b = r → f_X7_greatestDivisor_2 (fu + 1) a b i x (fun u _ _ z => some (u, z)) = f_X7_greatestDivisor_2 fu b r (i + 1) x (fun u _ _ z => some (u, z)) := by
    intro fu a b i r h1 h2 h3
    rw [f_X7_greatestDivisor_2, if_neg h1, if_neg h2]
    simp only [nz_ne h2, z_chk, h3]
  have s2 : ∀ fu (a b r : Int32), ¬ b = 0 → a - a / b * b = r → f_X8_divisor_13 (fu + 1) a b y (fun u _ z => some (u, z)) = f_X8_divisor_13 fu b r y (fun u _ z => some (u, z)) := by
    intro fu a b r h2 h3
    rw [f_X8_divisor_13, if_neg h2]
    simp only [nz_ne h2, z_chk, h3]
  have t1 : ∀ fu (a i : Int32), ¬ (64 : Int32) ≤ i → f_X7_greatestDivisor_2 (fu + 1) a 0 i x (fun u _ _ z => some (u, z)) = some (a, x) := by
    intro fu a i h1
    rw [f_X7_greatestDivisor_2, if_neg h1, if_pos rfl]
  have t2 : ∀ fu (a : Int32), f_X8_divisor_13 (fu + 1) a 0 y (fun u _ z => some (u, z)) = some (a, y) := by
    intro fu a
    rw [f_X8_divisor_13, if_pos rfl]
  rcases hq with rfl | rfl | rfl
  · refine ⟨1, by decide, ?_, ?_⟩
    · exact (s1 999 (-2147483648) (nI 1) 0 0 (by decide) (by decide) (by decide)).trans (t1 998 _ _ (by decide))
    · exact (s2 999 (-2147483648) (nI 1) 0 (by decide) (by decide)).trans (t2 998 _)
  · refine ⟨2, by decide, ?_, ?_⟩
    · exact (s1 999 (-2147483648) (nI 2) 0 0 (by decide) (by decide) (by decide)).trans (t1 998 _ _ (by decide))
    · exact (s2 999 (-2147483648) (nI 2) 0 (by decide) (by decide)).trans (t2 998 _)
  · refine ⟨-2, by decide, ?_, ?_⟩
    · exact ((s1 999 (-2147483648) (nI 6) 0 (-2) (by decide) (by decide) (by decide)).trans (s1 998 (nI 6) (-2) (0 + 1) 0 (by decide) (by decide) (by decide))).trans (t1 997 _ _ (by decide))
    · exact ((s2 999 (-2147483648) (nI 6) (-2) (by decide) (by decide)).trans (s2 998 (nI 6) (-2) 0 (by decide) (by decide))).trans (t2 997 _)
theorem fracs {t : Int32} {q : Nat} (hq : 0 < q) (hq2 : q < 1024) (hm : ¬ t = -2147483648 ∨ (q = 1 ∨ q = 2 ∨ q = 6)) (w : Int32) (x y : nz_S) : ∃ r, f_X7_inLeastTerms t (nI q) w x = some (r, x) ∧ f_X8_fraction t (nI q) w y = some (r, y) := by
  have key : ∃ g : Int32, ¬ g = 0 ∧ f_X7_greatestDivisor (if (0 : Int32) ≤ t then t else (0 : Int32) - t) (nI q) x = some (g, x) ∧ f_X8_divisor t (nI q) y = some (g, y) := by
    unfold f_X8_divisor
    by_cases h : (0 : Int32) ≤ t
    · rw [if_pos h, if_pos h]
      have hr := fb_rng t
      have h1 : 0 ≤ t.toInt := by rw [fa_le, i0] at h; exact h
      obtain ⟨p, hp, rfl⟩ := ib_ex (v := t) (n := 2147483648) ⟨h1, by omega⟩
      exact eucN hp hq hq2 x y
    · rw [if_neg h, if_neg h]
      have e0 : (0 : Int32) - t = -t := by rw [Int32.sub_eq_add_neg, Int32.zero_add]
      rw [e0]
      by_cases hmin : t = -2147483648
      · subst hmin
        rcases hm with hm | hm
        · exact absurd rfl hm
        · exact eucM hm x y
      · have hr := fb_rng t
        have h1 : t.toInt < 0 := by rw [fa_le, i0] at h; omega
        have h2 : t.toInt ≠ -2147483648 := fun e => hmin (nz_i32 (by rw [e]; decide))
        have h3 := fb_negI h2
        obtain ⟨p, hp, hpe⟩ := ib_ex (v := -t) (n := 2147483648) ⟨by omega, by omega⟩
        rw [hpe]
        exact eucN hp hq hq2 x y
  obtain ⟨g, g0, g1, g2⟩ := key
  unfold f_X7_inLeastTerms f_X8_fraction
  rw [g1, z_bnd, g2, z_bnd]
  by_cases hw : w = 0
  · rw [if_pos hw, if_pos hw, if_neg g0, nz_ne g0, z_chk, z_chk]
    exact ⟨_, rfl, rfl⟩
  · rw [if_neg hw, if_neg hw, if_neg g0, nz_ne g0, z_chk, z_chk]
    exact ⟨_, rfl, rfl⟩
/-! ===== SHARE ===== -/
def shT (G : zG) (b i n : Nat) : Nat → Int32
  | 0 => 0
  | c + 1 => if c.testBit i then shT G b i n c else shT G b i n c + (nI (fac (pc c)) * nI (fac (n - 1 - pc c))) * (nI (lp G b (c ||| 2 ^ i)) - nI (lp G b c))
theorem kShr_31 {G : zG} (hV : zV G) {b i n : Nat} (hb : b < G.1) (hn : n ≤ 3) (hi : i < n) (c3 : Int32) (K : Int32 → nz_S → Option (Int32 × nz_S)) : ∀ r c fu (x : nz_S), c + r = 2 ^ n → r < fu → zK x 3 G → ∃ x', f_X7_share_31 (nI b) (nI i) c3 (nI n) fu (shT G b i n c) (nI c) x (fun u _ z => K u z) = K (shT G b i n (2 ^ n)) x' ∧ eK x x'
  | 0, c, fu + 1, x, e, _, hk => by
    have h8 := pw8 n (by omega)
    have : c = 2 ^ n := by omega
    refine ⟨x, ?_, eK.rf x⟩
    rw [f_X7_share_31, shl_n n (by omega), if_pos ((z_le (by omega) (by omega)).mpr (by omega)), this]
  | r + 1, c, fu + 1, x, e, hf, hk => by
    have h8 := pw8 n (by omega)
    have hc : c < 2 ^ n := by omega
    rw [f_X7_share_31, shl_n n (by omega), if_neg (by rw [z_le (by omega) (by omega)]; omega)]
    simp only [bitN0 c (show i < 32 by omega), nI_1]
    cases q : c.testBit i with
    | true =>
      rw [if_neg (by decide)]
      obtain ⟨x', w1, w2⟩ := kShr_31 hV hb hn hi c3 K r (c + 1) fu x (by omega) (by omega) hk
      rw [shT, q, if_pos rfl] at w1
      exact ⟨x', w1, w2⟩
    | false =>
      rw [if_pos rfl]
      have hpc := pc_lt n (by omega) c hc i hi q
      have e1 : nI n - 1 - nI (pc c) = nI (n - 1 - pc c) := by rw [show (1 : Int32) = nI 1 from rfl, pk_sub (by omega), pk_sub (by omega)]
      obtain ⟨x1, a1, a2, a3⟩ := kLwa hV hb (c ||| 2 ^ i) hk
      obtain ⟨x2, b1, b2, b3⟩ := kLwa hV hb c a3
      obtain ⟨x', w1, w2⟩ := kShr_31 hV hb hn hi c3 K r (c + 1) fu x2 (by omega) (by omega) b3
      rw [shT, q, if_neg (by decide)] at w1
      refine ⟨x', ?_, (a2.tr b2).tr w2⟩
      simp only [kBc (show c < 8 by omega), z_bnd, kFac (show pc c ≤ 3 by omega), e1, kFac (show n - 1 - pc c ≤ 3 by omega), or_bit c (show c < 8 by omega) i (show i < 3 by omega), a1, b1]
      exact w1
theorem mShr_30 {G : zG} (hV : zV G) {b n : Nat} (hb : b < G.1) (hn : n ≤ 3) (c2 c3 : Int32) (K : nz_S → Option (Int32 × nz_S)) : ∀ r c fu (y : nz_S), c + r = 2 ^ n → r < fu → zM y 3 G → (∀ j, j < c → y.1 19 j = nI (lp G b j)) → ∃ y', f_X8_share_30 (nI b) c2 c3 (nI n) fu (nI c) y (fun _ z => K z) = K y' ∧ (∀ j, j < 2 ^ n → y'.1 19 j = nI (lp G b j)) ∧ eM y y'
  | 0, c, fu + 1, y, e, _, hz, h19 => by
    have h8 := pw8 n (by omega)
    have : c = 2 ^ n := by omega
    refine ⟨y, ?_, fun j hj => h19 j (by omega), eM.rf y⟩
    rw [f_X8_share_30, shl_n n (by omega), if_pos ((z_le (by omega) (by omega)).mpr (by omega))]
  | r + 1, c, fu + 1, y, e, hf, hz, h19 => by
    have h8 := pw8 n (by omega)
    have hc : c < 2 ^ n := by omega
    obtain ⟨y1, a1, a2, a3, a4⟩ := mKp hV hb c hz
    have hV1 := kp_V hV hb c
    have hF := dfs_F hV1
    have hU := wrk_U hF
    obtain ⟨y2, b1, b2, b3, b4⟩ := mFind (q := 4) (Or.inr rfl) hV1 a2
    have c2' := mCt hV1 hF hU (m := 1) (by omega) b2 b3
    have em1 : eM y y1 := ⟨fun d hd => a3 d (by omega), by rw [a3 0 (by omega)], by rw [a3 0 (by omega)], by rw [a3 0 (by omega)], a4⟩
    have em2 : eM y (nz_put y2 19 c (nI (lp G b c))) := (em1.tr b4.eM).tr (eM_put _ _ _ _ (by omega))
    obtain ⟨y', w1, w2, w3⟩ := mShr_30 hV hb hn c2 c3 K r (c + 1) fu (nz_put y2 19 c (nI (lp G b c))) (by omega) (by omega) (zM_eq hz (em2.1 3 (by omega))) (fun j hj => by
      rw [z_put1, if_pos rfl, z_upd]
      by_cases hjc : j = c
      · rw [if_pos hjc, hjc]
      · rw [if_neg hjc, b4.1 19 (by omega) (by omega), a3 19 (by omega)]
        exact h19 j (by omega))
    refine ⟨y', ?_, w2, em2.tr w3⟩
    rw [f_X8_share_30, shl_n n (by omega), if_neg (by rw [z_le (by omega) (by omega)]; omega), a1, z_bnd, b1, z_bnd]
    rw [show (1 : Int32) = nI 1 from rfl] at *
    rw [c2', z_bnd]
    simp only [z_in (show c < 8 by omega) (by omega), z_chk, z_N (show c < 2147483648 by omega)]
    rw [show nI c + nI 1 = nI (c + 1) from nI_add c 1]
    exact w1
theorem mShr_78 {G : zG} {b i n : Nat} (hn : n ≤ 3) (hi : i < n) (c3 : Int32) {y : nz_S} (h19 : ∀ j, j < 2 ^ n → y.1 19 j = nI (lp G b j)) (K : Int32 → nz_S → Option (Int32 × nz_S)) : ∀ r c fu, c + r = 2 ^ n → r < fu → f_X8_share_78 (nI i) c3 (nI n) fu (shT G b i n c) (nI c) y (fun u _ z => K u z) = K (shT G b i n (2 ^ n)) y
  | 0, c, fu + 1, e, _ => by
    have h8 := pw8 n (by omega)
    have : c = 2 ^ n := by omega
    rw [f_X8_share_78, shl_n n (by omega), if_pos ((z_le (by omega) (by omega)).mpr (by omega)), this]
  | r + 1, c, fu + 1, e, hf => by
    have h8 := pw8 n (by omega)
    have hc : c < 2 ^ n := by omega
    have ih := mShr_78 hn hi c3 h19 K r (c + 1) fu (by omega) (by omega)
    rw [f_X8_share_78, shl_n n (by omega), if_neg (by rw [z_le (by omega) (by omega)]; omega), mHasN c (show i < 32 by omega), z_bnd]
    simp only [nI_1]
    cases q : c.testBit i with
    | true =>
      rw [shT, q, if_pos rfl] at ih
      simp only [if_true, one0, if_false]
      exact ih
    | false =>
      have hpc := pc_lt n (by omega) c hc i hi q
      have e1 : nI n - 1 - nI (pc c) = nI (n - 1 - pc c) := by rw [show (1 : Int32) = nI 1 from rfl, pk_sub (by omega), pk_sub (by omega)]
      have ho := or_lt n (by omega) c hc i hi
      rw [shT, q, if_neg (by decide)] at ih
      simp only [Bool.false_eq_true, if_false, if_true, mMany, z_bnd, mWay (show pc c ≤ 3 by omega), e1, mWay (show n - 1 - pc c ≤ 3 by omega), or_bit c (show c < 8 by omega) i (show i < 3 by omega), z_in (show c ||| 2 ^ i < 8 by omega) (by omega), z_in (show c < 8 by omega) (by omega), z_chk, z_N (show c ||| 2 ^ i < 2147483648 by omega), z_N (show c < 2147483648 by omega), h19 _ ho, h19 _ hc]
      exact ih
theorem fac_q : ∀ n, n < 4 → (fac n = 1 ∨ fac n = 2 ∨ fac n = 6) := by decide
theorem sim_share (v w u : Int32) (a b : nz_S) (h : zR a b) : nz_both zR (f_X7_share v w u a) (f_X8_share v w u b) := by
  obtain ⟨-, ⟨G, hV, hk, hm⟩, -⟩ := id h
  have hk : zK a 3 G := hk
  have hm : zM b 3 G := hm
  have h12 := hV.1
  have em : eM b (nz_put b 0 0 0) := eM_put0 _ _ _ (by omega)
  have hm0 : zM (nz_put b 0 0 0) 3 G := zM_eq hm (em.1 3 (by omega))
  cases hc : hasA G v w with
  | false =>
    refine ⟨-1, a, nz_put b 0 0 0, ?_, ?_, h.eq (eK.rf a) em⟩
    · unfold f_X7_share
      simp only [kHA hk hV, hc, z_bnd, if_true, Bool.false_eq_true, if_false]
    · unfold f_X8_share
      simp only [mNA hm0 hV, hc, z_bnd, one0, Bool.false_eq_true, if_false]
  | true =>
    obtain ⟨c, i, hc1, hi, rfl, rfl⟩ := (hasA_ex hV).mp hc
    have hl := hV.l hc1
    obtain ⟨n, hnn⟩ : ∃ n, n = (G.2.2 c).length := ⟨_, rfl⟩
    rw [← hnn] at hl hi
    have h8 := pw8 n (by omega)
    have hq := fac_q n (by omega)
    have e3 : (13 : Int32) + nI c = nI (13 + c) := by rw [show (13 : Int32) = nI 13 from rfl, nI_add]
    have kc : a.1 5 c = nI n := by rw [hnn]; exact hk.c hc1
    have mc : (nz_put b 0 0 0).1 3 (13 + c) = nI n := by rw [hnn]; exact hm0.c hc1
    obtain ⟨a', w1, w2⟩ := kShr_31 hV hc1 hl hi u (fun u29 x28 => nz_bnd (f_X7_factorial (nI n) x28) fun r31 x32 => nz_bnd (f_X7_inLeastTerms u29 r31 u x32) fun r34 x35 => some (r34, x35)) (2 ^ n) 0 nz_F a (by omega) (by unfold nz_F; omega) hk
    obtain ⟨b', u1, u2, u3⟩ := mShr_30 hV hc1 hl (nI i) u (fun z => f_X8_share_78 (nI i) u (nI n) nz_F 0 0 z fun u45 _ x44 => nz_bnd (f_X8_ways (nI n) x44) fun r47 x48 => nz_bnd (f_X8_fraction u45 r47 u x48) fun r50 x51 => some (r50, x51)) (2 ^ n) 0 nz_F (nz_put b 0 0 0) (by omega) (by unfold nz_F; omega) hm0 (fun j hj => absurd hj (Nat.not_lt_zero j))
    have v1 := mShr_78 hl hi u u2 (fun u45 x44 => nz_bnd (f_X8_ways (nI n) x44) fun r47 x48 => nz_bnd (f_X8_fraction u45 r47 u x48) fun r50 x51 => some (r50, x51)) (2 ^ n) 0 nz_F (by omega) (by unfold nz_F; omega)
    rw [nI_0] at w1 u1 v1
    obtain ⟨r, f1, f2⟩ := fracs (t := shT G c i n (2 ^ n)) (q := fac n) (by omega) (by omega) (Or.inr hq) u a' b'
    refine ⟨r, a', b', ?_, ?_, h.eq w2 (em.tr u3)⟩
    · unfold f_X7_share
      simp only [kHA hk hV, hc, z_bnd, if_true, one0, if_false, z_in (show c < 12 by omega) (by omega), z_chk, z_N (show c < 2147483648 by omega), kc]
      refine w1.trans ?_
      rw [kFac hl, z_bnd, f1, z_bnd]
    · unfold f_X8_share
      simp only [mNA hm0 hV, hc, z_bnd, if_true, e3, z_in (show 13 + c < 61 by omega) (by omega), z_chk, z_N (show 13 + c < 2147483648 by omega), mc]
      refine u1.trans (v1.trans ?_)
      rw [mWay hl, z_bnd, f2, z_bnd]
/-! ===== TORN ===== -/
def tnT (G : zG) (b t n : Nat) : Nat → Nat
  | 0 => 0
  | c + 1 => if tme (kp G b c) (dfs (kp G b c)) then tnT G b t n c + (10 - t) ^ (pc c) * t ^ (n - pc c) else tnT G b t n c
theorem tnT_le (G : zG) {b t n : Nat} (ht : t ≤ 10) (hn : n ≤ 3) : ∀ c, c ≤ 2 ^ n → tnT G b t n c ≤ c * 1000000
  | 0, _ => Nat.zero_le _
  | c + 1, hc => by
    have ih := tnT_le G (b := b) ht hn c (by omega)
    have hpc := pc_le n (by omega) c (by omega)
    have p1 : (10 - t) ^ (pc c) ≤ 1000 := Nat.le_trans (Nat.pow_le_pow_left (show 10 - t ≤ 10 by omega) _) (show 10 ^ pc c ≤ 10 ^ 3 from Nat.pow_le_pow_right (by omega) (by omega))
    have p2 : t ^ (n - pc c) ≤ 1000 := Nat.le_trans (Nat.pow_le_pow_left ht _) (show 10 ^ (n - pc c) ≤ 10 ^ 3 from Nat.pow_le_pow_right (by omega) (by omega))
    have p3 : (10 - t) ^ (pc c) * t ^ (n - pc c) ≤ 1000000 := Nat.le_trans (Nat.mul_le_mul p1 p2) (by decide)
    rw [tnT, Nat.succ_mul]
    by_cases q : tme (kp G b c) (dfs (kp G b c)) = true
    · rw [if_pos q]; exact Nat.add_le_add ih p3
    · rw [if_neg q]; exact Nat.le_trans ih (Nat.le_add_right _ _)
theorem kTrn_43 {G : zG} (hV : zV G) {b t n : Nat} (hb : b < G.1) (ht : t ≤ 10) (hn : n ≤ 3) (c3 : Int32) (K : Int32 → nz_S → Option (Int32 × nz_S)) : ∀ r c fu (x : nz_S), c + r = 2 ^ n → r < fu → zK x 3 G → ∃ x', f_X7_torn_43 (nI b) (nI t) c3 (nI n) fu (nI (tnT G b t n c)) (nI c) x (fun u _ z => K u z) = K (nI (tnT G b t n (2 ^ n))) x' ∧ eK x x'
  | 0, c, fu + 1, x, e, _, hk => by
    have h8 := pw8 n (by omega)
    have : c = 2 ^ n := by omega
    refine ⟨x, ?_, eK.rf x⟩
    rw [f_X7_torn_43, shl_n n (by omega), if_pos ((z_le (by omega) (by omega)).mpr (by omega)), this]
  | r + 1, c, fu + 1, x, e, hf, hk => by
    have h8 := pw8 n (by omega)
    have hc : c < 2 ^ n := by omega
    have hpc := pc_le n (by omega) c hc
    have e1 : nI n - nI (pc c) = nI (n - pc c) := pk_sub hpc
    have e2 : (10 : Int32) - nI t = nI (10 - t) := pk_sub (a := 10) ht
    obtain ⟨x1, a1, a2, a3, a4⟩ := kSwa hV hb c hk
    have hV1 := kp_V hV hb c
    have hF := dfs_F hV1
    obtain ⟨x', w1, w2⟩ := kTrn_43 hV hb ht hn c3 K r (c + 1) fu x1 (by omega) (by omega) a4
    rw [tnT] at w1
    refine ⟨x', ?_, a3.tr w2⟩
    rw [f_X7_torn_43, shl_n n (by omega), if_neg (by rw [z_le (by omega) (by omega)]; omega), a1, z_bnd, kTam hV1 hF a2, z_bnd]
    simp only [nI_1]
    cases q : tme (kp G b c) (dfs (kp G b c)) with
    | false =>
      rw [q] at w1
      simp only [Bool.false_eq_true, if_false, if_true] at w1 ⊢
      exact w1
    | true =>
      rw [q] at w1
      simp only [if_true, one0, if_false, kBc (show c < 8 by omega), z_bnd, e1, e2, kPw (show pc c < 900 by omega), kPw (show n - pc c < 900 by omega), pk_mul, nI_add] at w1 ⊢
      exact w1
theorem mTrn_47 {G : zG} (hV : zV G) {b t n : Nat} (hb : b < G.1) (ht : t ≤ 10) (hn : n ≤ 3) (c3 : Int32) (K : Int32 → nz_S → Option (Int32 × nz_S)) : ∀ r c fu (y : nz_S), c + r = 2 ^ n → r < fu → zM y 3 G → ∃ y', f_X8_torn_47 (nI b) (nI t) c3 (nI n) fu (nI (tnT G b t n c)) (nI c) y (fun u _ z => K u z) = K (nI (tnT G b t n (2 ^ n))) y' ∧ eM y y'
  | 0, c, fu + 1, y, e, _, hz => by
    have h8 := pw8 n (by omega)
    have : c = 2 ^ n := by omega
    refine ⟨y, ?_, eM.rf y⟩
    rw [f_X8_torn_47, shl_n n (by omega), if_pos ((z_le (by omega) (by omega)).mpr (by omega)), this]
  | r + 1, c, fu + 1, y, e, hf, hz => by
    have h8 := pw8 n (by omega)
    have hc : c < 2 ^ n := by omega
    have hpc := pc_le n (by omega) c hc
    have e1 : nI n - nI (pc c) = nI (n - pc c) := pk_sub hpc
    have e2 : (10 : Int32) - nI t = nI (10 - t) := pk_sub (a := 10) ht
    obtain ⟨y1, a1, a2, a3, a4⟩ := mKp hV hb c hz
    have hV1 := kp_V hV hb c
    have hF := dfs_F hV1
    obtain ⟨y2, b1, b2, b3, b4⟩ := mFind (q := 4) (Or.inr rfl) hV1 a2
    have em1 : eM y y1 := ⟨fun d hd => a3 d (by omega), by rw [a3 0 (by omega)], by rw [a3 0 (by omega)], by rw [a3 0 (by omega)], a4⟩
    have em2 : eM y y2 := em1.tr b4.eM
    obtain ⟨y', w1, w2⟩ := mTrn_47 hV hb ht hn c3 K r (c + 1) fu y2 (by omega) (by omega) (zM_eq hz (em2.1 3 (by omega)))
    rw [tnT] at w1
    refine ⟨y', ?_, em2.tr w2⟩
    rw [f_X8_torn_47, shl_n n (by omega), if_neg (by rw [z_le (by omega) (by omega)]; omega), a1, z_bnd, b1, z_bnd, mMany, z_bnd, mTam hV1 hF b2 (b4.M (Or.inr rfl) a2), z_bnd]
    simp only [nI_1]
    cases q : tme (kp G b c) (dfs (kp G b c)) with
    | false =>
      rw [q] at w1
      simp only [Bool.false_eq_true, if_false, if_true, nI_a0] at w1 ⊢
      exact w1
    | true =>
      rw [q] at w1
      simp only [if_true, one0, if_false, z_bnd, e1, e2, mPw (show pc c < 900 by omega), mPw (show n - pc c < 900 by omega), pk_mul, nI_add] at w1 ⊢
      exact w1
theorem pw10 : ∀ n, n < 4 → 0 < 10 ^ n ∧ 10 ^ n < 1024 := by decide +kernel
theorem l10 : (10 : Int64).toInt = 10 := by decide
theorem sim_torn (v w u : Int32) (a b : nz_S) (h : zR a b) : nz_both zR (f_X7_torn v w u a) (f_X8_torn v w u b) := by
  obtain ⟨-, ⟨G, hV, hk, hm⟩, -⟩ := id h
  have hk : zK a 3 G := hk
  have hm : zM b 3 G := hm
  have h12 := hV.1
  have em : eM b (nz_put b 0 0 0) := eM_put0 _ _ _ (by omega)
  have hm0 : zM (nz_put b 0 0 0) 3 G := zM_eq hm (em.1 3 (by omega))
  by_cases hb : (0 ≤ v.toInt ∧ v.toInt < (G.1 : Int))
  · have hb0 := hb
    obtain ⟨c, hc1, rfl⟩ := ib_ex hb
    by_cases hw : 0 ≤ w.toInt ∧ w.toInt ≤ 10
    · have hw0 := hw
      obtain ⟨t, ht, rfl⟩ := ib_ex (v := w) (n := 11) ⟨hw.1, by omega⟩
      have c1 : ¬ nI t < 0 := nI_pos (by omega)
      have c2 : nI t ≤ 10 := (z_le (b := 10) (by omega) (by omega)).mpr (by omega)
      have hl := hV.l hc1
      obtain ⟨n, hnn⟩ : ∃ n, n = (G.2.2 c).length := ⟨_, rfl⟩
      rw [← hnn] at hl
      have h8 := pw8 n (by omega)
      have hp := pw10 n (by omega)
      have e3 : (13 : Int32) + nI c = nI (13 + c) := by rw [show (13 : Int32) = nI 13 from rfl, nI_add]
      have kc : a.1 5 c = nI n := by rw [hnn]; exact hk.c hc1
      have mc : (nz_put b 0 0 0).1 3 (13 + c) = nI n := by rw [hnn]; exact hm0.c hc1
      obtain ⟨a', w1, w2⟩ := kTrn_43 hV hc1 (t := t) (by omega) hl u (fun u30 x29 => nz_bnd (f_X7_power (nI 10) (nI n) x29) fun r32 x33 => nz_bnd (f_X7_inLeastTerms u30 r32 u x33) fun r35 x36 => some (r35, x36)) (2 ^ n) 0 nz_F a (by omega) (by unfold nz_F; omega) hk
      obtain ⟨b', u1, u2⟩ := mTrn_47 hV hc1 (t := t) (by omega) hl u (fun u38 x37 => nz_bnd (f_X8_power (nI 10) (nI n) x37) fun r40 x41 => nz_bnd (f_X8_fraction u38 r40 u x41) fun r43 x44 => some (r43, x44)) (2 ^ n) 0 nz_F (nz_put b 0 0 0) (by omega) (by unfold nz_F; omega) hm0
      rw [nI_0] at w1 u1
      have hT := tnT_le G (b := c) (t := t) (n := n) (by omega) hl (2 ^ n) (Nat.le_refl _)
      have hne : ¬ nI (tnT G c t n (2 ^ n)) = -2147483648 := by
        intro e
        have := congrArg Int32.toInt e
        rw [nI_toInt (by omega), show (-2147483648 : Int32).toInt = -2147483648 by decide] at this
        omega
      obtain ⟨r, f1, f2⟩ := fracs (t := nI (tnT G c t n (2 ^ n))) (q := 10 ^ n) hp.1 hp.2 (Or.inl hne) u a' b'
      refine ⟨r, a', b', ?_, ?_, h.eq w2 (em.tr u2)⟩
      · unfold f_X7_torn
        simp only [kHB hk hV, if_pos hb0, z_bnd, one0, if_false, c1, c2, if_true, z_in (show c < 12 by omega) (by omega), z_chk, z_N (show c < 2147483648 by omega), kc]
        refine w1.trans ?_
        rw [kPw (by omega), z_bnd, f1, z_bnd]
      · unfold f_X8_torn
        simp only [mNB hm0 hV, if_pos hb0, z_bnd, if_true, in_eqI, l0, l10, hw0, and_self, one0, if_false, e3, z_in (show 13 + c < 61 by omega) (by omega), z_chk, z_N (show 13 + c < 2147483648 by omega), mc]
        refine u1.trans ?_
        rw [mPw (by omega), z_bnd, f2, z_bnd]
    · refine ⟨-2, a, nz_put b 0 0 0, ?_, ?_, h.eq (eK.rf a) em⟩
      · unfold f_X7_torn
        simp only [kHB hk hV, if_pos hb0, z_bnd, one0, if_false]
        by_cases c1 : w < 0
        · rw [if_pos c1]
        · have c2 : ¬ w ≤ 10 := by rw [fa_le, show (10 : Int32).toInt = 10 by decide]; rw [fa_lt, i0] at c1; omega
          rw [if_neg c1, if_neg c2]
      · unfold f_X8_torn
        simp only [mNB hm0 hV, if_pos hb0, z_bnd, if_true, in_eqI, l0, l10, hw, if_false]
  · refine ⟨-1, a, nz_put b 0 0 0, ?_, ?_, h.eq (eK.rf a) em⟩
    · unfold f_X7_torn
      simp only [kHB hk hV, if_neg hb, z_bnd, if_true]
    · unfold f_X8_torn
      simp only [mNB hm0 hV, if_neg hb, z_bnd, one0, if_false]
