/-! ===== figures and powers ===== -/
theorem kFig_5 {r k : Nat} (hr : r < 2 ^ 63) (hk : k < 1000) (x : nz_S) (K : Int64 → Int32 → nz_S → Option (Int32 × nz_S)) : ∀ n i fu, i + n = k → n < fu → f_X7_figure_5 (nI k) fu (lN (r / 10 ^ i)) (nI i) x K = K (lN (r / 10 ^ k)) (nI k) x
  | 0, i, fu + 1, e, _ => by
    have : i = k := by omega
    subst this
    rw [f_X7_figure_5, if_pos ((z_le (by omega) (by omega)).mpr (Nat.le_refl _))]
  | n + 1, i, fu + 1, e, hf => by
    have ih := kFig_5 hr hk x K n (i + 1) fu (by omega) (by omega)
    have hd : r / 10 ^ i < 2 ^ 63 := Nat.lt_of_le_of_lt (Nat.div_le_self _ _) hr
    have e1 : lN (r / 10 ^ i) / 10 = lN (r / 10 ^ (i + 1)) := by
      rw [show (10 : Int64) = lN 10 from rfl, pk_lDiv hd (by omega) (by omega), Nat.div_div_eq_div_mul, Nat.pow_succ]
    rw [f_X7_figure_5, if_neg (by rw [z_le (by omega) (by omega)]; omega)]
    simp only [e1, nI_1]
    exact ih
theorem kFig {r k : Nat} (hr : r < 2 ^ 63) (hk : k < 900) (x : nz_S) : f_X7_figure (lN r) (nI k) x = some (nI (r / 10 ^ k % 10), x) := by
  have := kFig_5 hr (show k < 1000 by omega) x (fun u5 _ x4 => some (((u5 - u5 / (10 : Int64) * (10 : Int64))).toInt32, x4)) k 0 nz_F (by omega) (by unfold nz_F; omega)
  rw [Nat.pow_zero, Nat.div_one, nI_0] at this
  refine this.trans ?_
  have hd : r / 10 ^ k < 2 ^ 63 := Nat.lt_of_le_of_lt (Nat.div_le_self _ _) hr
  rw [show (10 : Int64) = lN 10 from rfl, pk_lRem hd (by omega) (by omega), lN_i]
theorem kTens_4 {k : Nat} (hk : k < 1000) (x : nz_S) (K : Int64 → Int32 → nz_S → Option (Int64 × nz_S)) : ∀ n i fu, i + n = k → n < fu → f_X7_tens_4 (nI k) fu (lN (10 ^ i)) (nI i) x K = K (lN (10 ^ k)) (nI k) x
  | 0, i, fu + 1, e, _ => by
    have : i = k := by omega
    subst this
    rw [f_X7_tens_4, if_pos ((z_le (by omega) (by omega)).mpr (Nat.le_refl _))]
  | n + 1, i, fu + 1, e, hf => by
    have ih := kTens_4 hk x K n (i + 1) fu (by omega) (by omega)
    have e1 : lN (10 ^ i) * 10 = lN (10 ^ (i + 1)) := by rw [show (10 : Int64) = lN 10 from rfl, lN_mul, Nat.pow_succ]
    rw [f_X7_tens_4, if_neg (by rw [z_le (by omega) (by omega)]; omega)]
    simp only [e1, nI_1]
    exact ih
theorem kTens {k : Nat} (hk : k < 900) (x : nz_S) : f_X7_tens (nI k) x = some (lN (10 ^ k), x) := by
  have := kTens_4 (show k < 1000 by omega) x (fun u5 _ x4 => some (u5, x4)) k 0 nz_F (by omega) (by unfold nz_F; omega)
  rw [Nat.pow_zero, nI_0] at this
  exact this
theorem mLp_5 {k : Nat} (hk : k < 1000) (x : nz_S) (K : Int64 → Int32 → nz_S → Option (Int64 × nz_S)) : ∀ n i fu, i + n = k → n < fu → f_X8_longPower_5 1000 (nI k) fu (lN (1000 ^ i)) (nI i) x K = K (lN (1000 ^ k)) (nI k) x
  | 0, i, fu + 1, e, _ => by
    have : i = k := by omega
    subst this
    rw [f_X8_longPower_5, if_pos ((z_le (by omega) (by omega)).mpr (Nat.le_refl _))]
  | n + 1, i, fu + 1, e, hf => by
    have ih := mLp_5 hk x K n (i + 1) fu (by omega) (by omega)
    have e1 : lN (1000 ^ i) * 1000 = lN (1000 ^ (i + 1)) := by rw [show (1000 : Int64) = lN 1000 from rfl, lN_mul, Nat.pow_succ]
    rw [f_X8_longPower_5, if_neg (by rw [z_le (by omega) (by omega)]; omega)]
    simp only [e1, nI_1]
    exact ih
theorem mLp {k : Nat} (hk : k < 900) (x : nz_S) : f_X8_longPower 1000 (nI k) x = some (lN (1000 ^ k), x) := by
  have := mLp_5 (show k < 1000 by omega) x (fun u5 _ x4 => some (u5, x4)) k 0 nz_F (by omega) (by unfold nz_F; omega)
  rw [Nat.pow_zero, nI_0] at this
  exact this
/-! ===== what is tried, on both sides ===== -/
theorem ib_n {a n : Nat} (ha : a < 2147483648) (h : a < n) : (0 ≤ (nI a).toInt ∧ (nI a).toInt < (n : Int)) := by rw [nI_toInt ha]; omega
theorem ib_no {a n : Nat} (ha : a < 2147483648) (h : ¬ a < n) : ¬ (0 ≤ (nI a).toInt ∧ (nI a).toInt < (n : Int)) := by rw [nI_toInt ha]; omega
theorem nI_ge0 {a : Nat} (ha : a < 2147483648) : ¬ nI a < 0 := nI_pos ha
def both01 (r s : Int32) : Prop := s = if r < 0 then 0 else 1
theorem tAdd {x y : nz_S} {G : zG} (hV : zV G) (hk : zK x 7 G) (hz : zM y 4 G) {a b : Nat} (ha : a < 100) (hb : b < 100) : ∃ r x' y' G', f_X0_appendArc 7 (nI a) (nI b) x = some (r, x') ∧ f_X8_adds (nI a) (nI b) y = some (if r < 0 then 0 else 1, y') ∧ zV G' ∧ zK x' 7 G' ∧ zM y' 4 G' ∧ eK x x' ∧ fR 4 y y' := by
  have h12 := hV.1
  have e0 : ((0 : Int32)).toNatClampNeg = 0 := rfl
  have e3 : (13 : Int32) + nI a = nI (13 + a) := by rw [show (13 : Int32) = nI 13 from rfl, nI_add]
  have le1 : ∀ c, c < 100 → (nI G.1 ≤ nI c ↔ G.1 ≤ c) := fun c hc => z_le (by omega) (by omega)
  by_cases h1 : a < G.1
  · by_cases h2 : b < G.1
    · have hl := hV.l h1
      obtain ⟨c, t, hc1, ht1, ec, et, hyes, hno⟩ := kAppend hk hV (nI a) (nI b) (ib_n (by omega) h1) (ib_n (by omega) h2)
      have ec : a = c := (z_eq (by omega) (by omega)).mp ec
      have et : b = t := (z_eq (by omega) (by omega)).mp et
      subst ec et
      by_cases hf : (G.2.2 a).length < 3
      · obtain ⟨x', y1, y2, y3, y4, y5⟩ := hyes hf
        obtain ⟨u1, u2⟩ := mAddG hz hV (t := b) h1 hf
        have k3 : ¬ (3 : Int32) ≤ nI (G.2.2 a).length := by rw [show (3 : Int32) = nI 3 from rfl, z_le (by omega) (by omega)]; omega
        refine ⟨_, x', _, gAdd G a b, y1, ?_, y3, y2, u2, ⟨fun d hd => y4 d (by omega) (by omega), y5⟩, fR_one (by omega) (fun d hd => by rw [z_put1, if_neg hd, z_put1, if_neg hd]) rfl⟩
        rw [if_neg (nI_pos (by omega))]
        unfold f_X8_adds
        simp only [show nz_in 0 61 = true from rfl, z_chk, e0, hz.n, le1 a ha, le1 b hb, show ¬ G.1 ≤ a by omega, show ¬ G.1 ≤ b by omega, if_false, e3, z_in (show 13 + a < 61 by omega) (by omega), z_N (show 13 + a < 2147483648 by omega), hz.c h1, k3, u1, z_bnd]
      · have k3 : (3 : Int32) ≤ nI (G.2.2 a).length := by rw [show (3 : Int32) = nI 3 from rfl, z_le (by omega) (by omega)]; omega
        refine ⟨-4, x, y, G, hno hf, ?_, hV, hk, hz, eK.rf x, fR.rf 4 y⟩
        unfold f_X8_adds
        simp only [show nz_in 0 61 = true from rfl, z_chk, e0, hz.n, le1 a ha, le1 b hb, show ¬ G.1 ≤ a by omega, show ¬ G.1 ≤ b by omega, if_false, e3, z_in (show 13 + a < 61 by omega) (by omega), z_N (show 13 + a < 2147483648 by omega), hz.c h1, k3, if_true, show (-4 : Int32) < 0 by decide]
    · refine ⟨-1, x, y, G, kAppendU hk hV _ _ (fun q => ib_no (by omega) h2 q.2), ?_, hV, hk, hz, eK.rf x, fR.rf 4 y⟩
      unfold f_X8_adds
      simp only [show nz_in 0 61 = true from rfl, z_chk, e0, hz.n, le1 a ha, le1 b hb, show ¬ G.1 ≤ a by omega, show G.1 ≤ b by omega, if_false, if_true, show (-1 : Int32) < 0 by decide]
  · refine ⟨-1, x, y, G, kAppendU hk hV _ _ (fun q => ib_no (by omega) h1 q.1), ?_, hV, hk, hz, eK.rf x, fR.rf 4 y⟩
    unfold f_X8_adds
    simp only [show nz_in 0 61 = true from rfl, z_chk, e0, hz.n, le1 a ha, show G.1 ≤ a by omega, if_true, show (-1 : Int32) < 0 by decide]
theorem tCut {x y : nz_S} {G : zG} (hV : zV G) (hk : zK x 7 G) (hz : zM y 4 G) {a b : Nat} (ha : a < 100) (hb : b < 100) : ∃ r x' y' G', f_X0_dropArc 7 (nI a) (nI b) x = some (r, x') ∧ f_X8_cuts (nI a) (nI b) y = some (if r < 0 then 0 else 1, y') ∧ zV G' ∧ zK x' 7 G' ∧ zM y' 4 G' ∧ eK x x' ∧ fR 4 y y' := by
  have h12 := hV.1
  have e0 : ((0 : Int32)).toNatClampNeg = 0 := rfl
  have e3 : (13 : Int32) + nI a = nI (13 + a) := by rw [show (13 : Int32) = nI 13 from rfl, nI_add]
  have le1 : ∀ c, c < 100 → (nI G.1 ≤ nI c ↔ G.1 ≤ c) := fun c hc => z_le (by omega) (by omega)
  by_cases h1 : a < G.1
  · have hl := hV.l h1
    have le2 : nI (G.2.2 a).length ≤ nI b ↔ (G.2.2 a).length ≤ b := z_le (by omega) (by omega)
    by_cases h2 : b < (G.2.2 a).length
    · have ht := hV.t h1 h2
      obtain ⟨x', y1, y2, y4, y5⟩ := kDrop hk hV h1 h2
      obtain ⟨z, u1, u2, u3, u4⟩ := mCut hz hV h1 h2
      refine ⟨_, x', z, gCut G a b, y1, ?_, gCut_V hV h1 b, y2, u2, ⟨fun d hd => y4 d (by omega) (by omega), y5⟩, fR_one (by omega) u3 u4⟩
      rw [if_neg (nI_pos (by omega))]
      unfold f_X8_cuts
      simp only [show nz_in 0 61 = true from rfl, z_chk, e0, hz.n, le1 a ha, show ¬ G.1 ≤ a by omega, if_false, e3, z_in (show 13 + a < 61 by omega) (by omega), z_N (show 13 + a < 2147483648 by omega), hz.c h1, le2, show ¬ (G.2.2 a).length ≤ b by omega, u1, z_bnd]
    · have hA : hasA G (nI a) (nI b) = false := by
        cases e : hasA G (nI a) (nI b) with
        | false => rfl
        | true =>
          obtain ⟨c, i, q1, q2, q3, q4⟩ := (hasA_ex hV).mp e
          have := hV.l q1
          have q3 := (z_eq (by omega) (by omega)).mp q3
          have q4 := (z_eq (by omega) (by omega)).mp q4
          subst q3 q4
          exact absurd q2 h2
      refine ⟨-1, x, y, G, kDropU hk hV hA, ?_, hV, hk, hz, eK.rf x, fR.rf 4 y⟩
      unfold f_X8_cuts
      simp only [show nz_in 0 61 = true from rfl, z_chk, e0, hz.n, le1 a ha, show ¬ G.1 ≤ a by omega, if_false, e3, z_in (show 13 + a < 61 by omega) (by omega), z_N (show 13 + a < 2147483648 by omega), hz.c h1, le2, show (G.2.2 a).length ≤ b by omega, if_true, show (-1 : Int32) < 0 by decide]
  · have hA : hasA G (nI a) (nI b) = false := by
      cases e : hasA G (nI a) (nI b) with
      | false => rfl
      | true =>
        obtain ⟨c, i, q1, q2, q3, q4⟩ := (hasA_ex hV).mp e
        have q3 := (z_eq (by omega) (by omega)).mp q3
        subst q3
        exact absurd q1 h1
    refine ⟨-1, x, y, G, kDropU hk hV hA, ?_, hV, hk, hz, eK.rf x, fR.rf 4 y⟩
    unfold f_X8_cuts
    simp only [show nz_in 0 61 = true from rfl, z_chk, e0, hz.n, le1 a ha, show G.1 ≤ a by omega, if_true, show (-1 : Int32) < 0 by decide]
theorem tSplit {x y : nz_S} {G : zG} (hV : zV G) (hk : zK x 7 G) (hz : zM y 4 G) {a b : Nat} (ha : a < 100) (hb : b < 100) : ∃ r x' y' G', f_X0_copyBlockFor 7 (nI a) (nI b) x = some (r, x') ∧ f_X8_splits (nI a) (nI b) y = some (if r < 0 then 0 else 1, y') ∧ zV G' ∧ zK x' 7 G' ∧ zM y' 4 G' ∧ eK x x' ∧ fR 4 y y' := by
  have h12 := hV.1
  have e0 : ((0 : Int32)).toNatClampNeg = 0 := rfl
  have le1 : ∀ c, c < 100 → (nI G.1 ≤ nI c ↔ G.1 ≤ c) := fun c hc => z_le (by omega) (by omega)
  have le12 : (12 : Int32) ≤ nI G.1 ↔ 12 ≤ G.1 := z_le (a := 12) (by omega) (by omega)
  by_cases h1 : a < G.1
  · by_cases h2 : b < G.1
    · have i1 := ib_n (show a < 2147483648 by omega) h1
      have i2 := ib_n (show b < 2147483648 by omega) h2
      cases hgo : gGo G a b with
      | true =>
        by_cases hf : G.1 < 12
        · obtain ⟨x', y1, y2, y4, y5⟩ := kSplit hk hV h1 h2 hf hgo
          obtain ⟨z, u1, u2, u3, u4⟩ := mSplit hz hV h1 h2 hf
          refine ⟨_, x', z, gSplit G a b, y1, ?_, gSplit_V hV h1 h2 hf, y2, u2, ⟨fun d hd => y4 d (by omega), y5⟩, fR_one (by omega) u3 u4⟩
          rw [if_neg (nI_pos (by omega))]
          unfold f_X8_splits
          simp only [show nz_in 0 61 = true from rfl, z_chk, e0, hz.n, le1 a ha, le1 b hb, le12, show ¬ G.1 ≤ a by omega, show ¬ G.1 ≤ b by omega, show ¬ 12 ≤ G.1 by omega, if_false, mGoes hz hV h1 hb, hgo, if_true, one0, u1, z_bnd]
        · refine ⟨-4, x, y, G, kFullS hk hV h1 h2 (by omega) hgo, ?_, hV, hk, hz, eK.rf x, fR.rf 4 y⟩
          unfold f_X8_splits
          simp only [show nz_in 0 61 = true from rfl, z_chk, e0, hz.n, le1 a ha, le1 b hb, le12, show ¬ G.1 ≤ a by omega, show ¬ G.1 ≤ b by omega, show 12 ≤ G.1 by omega, if_false, if_true, show (-4 : Int32) < 0 by decide]
      | false =>
        refine ⟨-3, x, y, G, ?_, ?_, hV, hk, hz, eK.rf x, fR.rf 4 y⟩
        · simp only [f_X0_copyBlockFor, kHB hk hV, if_pos i1, if_pos i2, z_bnd, one0, if_false, kGoes hk hV h1 hb, hgo, Bool.false_eq_true, if_true]
        · unfold f_X8_splits
          by_cases hf : 12 ≤ G.1
          · simp only [show nz_in 0 61 = true from rfl, z_chk, e0, hz.n, le1 a ha, le1 b hb, le12, show ¬ G.1 ≤ a by omega, show ¬ G.1 ≤ b by omega, hf, if_false, if_true, show (-3 : Int32) < 0 by decide]
          · simp only [show nz_in 0 61 = true from rfl, z_chk, e0, hz.n, le1 a ha, le1 b hb, le12, show ¬ G.1 ≤ a by omega, show ¬ G.1 ≤ b by omega, hf, if_false, mGoes hz hV h1 hb, hgo, Bool.false_eq_true, z_bnd, if_true, show (-3 : Int32) < 0 by decide]
    · have i1 := ib_n (show a < 2147483648 by omega) h1
      have i2 := ib_no (show b < 2147483648 by omega) h2
      refine ⟨-1, x, y, G, ?_, ?_, hV, hk, hz, eK.rf x, fR.rf 4 y⟩
      · simp only [f_X0_copyBlockFor, kHB hk hV, if_pos i1, if_neg i2, z_bnd, one0, if_false, if_true]
      · unfold f_X8_splits
        simp only [show nz_in 0 61 = true from rfl, z_chk, e0, hz.n, le1 a ha, le1 b hb, show ¬ G.1 ≤ a by omega, show G.1 ≤ b by omega, if_false, if_true, show (-1 : Int32) < 0 by decide]
  · have i1 := ib_no (show a < 2147483648 by omega) h1
    refine ⟨-1, x, y, G, ?_, ?_, hV, hk, hz, eK.rf x, fR.rf 4 y⟩
    · simp only [f_X0_copyBlockFor, kHB hk hV, if_neg i1, z_bnd, if_true]
    · unfold f_X8_splits
      simp only [show nz_in 0 61 = true from rfl, z_chk, e0, hz.n, le1 a ha, show G.1 ≤ a by omega, if_true, show (-1 : Int32) < 0 by decide]
theorem surv4 {x y : nz_S} {G : zG} (hV : zV G) (hk : zK x 7 G) (hz : zM y 4 G) : ∃ x2 y2, f_X5_read 7 x = some ((), x2) ∧ kS x2 G (dfs G) (wrk G (dfs G)) ∧ eK x x2 ∧ zK x2 7 G ∧ f_X8_find 4 y = some ((), y2) ∧ mW y2 (dfs G) ∧ mV y2 (wrk G (dfs G)) ∧ fR 4 y y2 ∧ zM y2 4 G := by
  obtain ⟨a2, r1, r2, r3⟩ := kRead (g := 7) (by omega) hV hk
  obtain ⟨b2, s1, s2, s3, s4⟩ := mFind (q := 4) (Or.inr rfl) hV hz
  exact ⟨a2, b2, r1, r2, r3.eK, r3.K (by omega) hk, s1, s2, s3, s4.R 4, s4.M (Or.inr rfl) hz⟩
theorem bo_p (c : Prop) [Decidable c] : nz_bo (if c then 1 else 0) = true := by
  by_cases h : c
  · rw [if_pos h]; rfl
  · rw [if_neg h]; rfl
theorem ite_10 {c : Prop} [Decidable c] {x : nz_S} : (if c then some ((1 : Int32), x) else some (0, x)) = some (if c then 1 else 0, x) := by
  by_cases h : c
  · rw [if_pos h, if_pos h]
  · rw [if_neg h, if_neg h]
theorem ite_01 {c : Prop} [Decidable c] {x : nz_S} : (if c then some ((0 : Int32), x) else some (1, x)) = some (if c then 0 else 1, x) := by
  by_cases h : c
  · rw [if_pos h, if_pos h]
  · rw [if_neg h, if_neg h]
theorem bo_p2 (c : Prop) [Decidable c] : nz_bo (if c then 0 else 1) = true := by
  by_cases h : c
  · rw [if_pos h]; rfl
  · rw [if_neg h]; rfl
/-- one told thing: the same answer on both sides, and the graphs go on alike -/
theorem hd_nk (k : Nat) (hk : k < 10) (n : Nat) (hn : n < 10) : (nI k = nI n) = (k = n) := propext (z_eq (by omega) (by omega))
theorem saidIs {x y : nz_S} {G : zG} (hV : zV G) (hk : zK x 7 G) (hz : zM y 4 G) {k a b : Nat} (hk10 : k < 10) (hk4 : k ≠ 4) (ha : a < 10) (hb : b < 10) : ∃ r x' y', f_X7_isSaidOfBlock (nI k) (nI a) (nI b) x = some (r, x') ∧ f_X8_isSo (nI k) (nI a) (nI b) y = some (r, y') ∧ (r = 0 ∨ r = 1) ∧ zK x' 7 G ∧ zM y' 4 G ∧ eK x x' ∧ fR 4 y y' := by
  have h12 := hV.1
  have hF := dfs_F hV
  have hU := wrk_U hF
  have hH : ∀ b k, (wrk G (dfs G)).1 b = some k → k < 12 := fun b k e => hU.lt hV hF b k e
  have hty := hU.2.2.1
  have e0 : ((0 : Int32)).toNatClampNeg = 0 := rfl
  obtain ⟨x2, y2, r1, r2, r3, hk2, s1, s2, s3, s4, hz2⟩ := surv4 hV hk hz
  have n4 : ¬ nI k = 4 := fun e => hk4 ((z_eq (b := 4) (by omega) (by omega)).mp e)
  have lt1 : ∀ c, c < 10 → (nI c < nI G.1 ↔ c < G.1) := fun c hc => z_lt (by omega) (by omega)
  have le1 : ∀ c, c < 10 → (nI G.1 ≤ nI c ↔ G.1 ≤ c) := fun c hc => z_le (by omega) (by omega)
  have ref0 : f_X8_isSo (nI k) (nI a) (nI b) y = if a < G.1 then (if nI k = 5 then nz_chk (nz_in (nI a) 12) (if (y2.1 16 (nI a).toNatClampNeg) = nI b then some (1, y2) else some (0, y2)) else if nI k = 6 then nz_bnd (f_X8_depth (nI a) y2) fun r11 x12 => if r11 = nI b then some (1, x12) else some (0, x12) else if nI k = 7 then (if G.1 ≤ b then some (0, y2) else nz_chk (nz_in (nI b) 12) (if (y2.1 15 (nI b).toNatClampNeg) = nI a then some (1, y2) else some (0, y2))) else if nI k = 8 then (if G.1 ≤ b then some (0, y2) else nz_bnd (f_X8_passed 4 (nI a) y2) fun r23 x24 => nz_bnd (f_X8_has r23 (nI b) x24) fun r26 x27 => if r26 = 0 then some (0, x27) else some (1, x27)) else some (0, y2)) else some (0, y2) := by
    unfold f_X8_isSo
    simp only [s1, z_bnd, n4, if_false, show nz_in 0 61 = true from rfl, z_chk, e0, hz2.n, lt1 a ha, le1 b hb]
  by_cases h1 : a < G.1
  · have i1 := ib_n (show a < 2147483648 by omega) h1
    have ha12 : a < 12 := by omega
    have kls0 : f_X7_isSaidOfBlock (nI k) (nI a) (nI b) x = if nI k = 5 then nz_chk (nz_in (nI a) 12) (if (x2.1 19 (nI a).toNatClampNeg) = nI b then some (1, x2) else some (0, x2)) else if nI k = 6 then nz_bnd (f_X5_depthOf (nI a) x2) fun r12 x13 => if r12 = nI b then some (1, x13) else some (0, x13) else if nI k = 7 then nz_bnd (f_X0_hasBlock 7 (nI b) x2) fun r17 x18 => if r17 = 0 then some (0, x18) else nz_chk (nz_in (nI b) 12) (if (x18.1 18 (nI b).toNatClampNeg) = nI a then some (1, x18) else some (0, x18)) else if nI k = 8 then nz_bnd (f_X0_hasBlock 7 (nI b) x2) fun r24 x25 => if r24 = 0 then some (0, x25) else nz_bnd (f_X5_passedBy (nI a) x25) fun r28 x29 => if ((r28 >>> (nI b &&& 31)) &&& 1) = 0 then some (0, x29) else some (1, x29) else some (0, x2) := by
      unfold f_X7_isSaidOfBlock
      simp only [kHB hk hV, if_pos i1, z_bnd, one0, if_false, r1]
    rw [ref0, if_pos h1, kls0]
    by_cases k5 : nI k = 5
    · rw [if_pos k5, if_pos k5, z_in ha12 (by omega), z_chk, z_chk, z_N (show a < 2147483648 by omega), r2.2.2.2.2.2.2.1 a ha12, s3.2.1 a ha12, ite_10, ite_10]
      exact ⟨_, x2, y2, rfl, rfl, by split <;> simp, hk2, hz2, r3, s4⟩
    rw [if_neg k5, if_neg k5]
    by_cases k6 : nI k = 6
    · rw [if_pos k6, if_pos k6, kDep hH hty r2.2.2.2.2.2 ha12, mDep hV hF hU s2 s3 ha12, z_bnd, z_bnd, ite_10, ite_10]
      exact ⟨_, x2, y2, rfl, rfl, by split <;> simp, hk2, hz2, r3, s4⟩
    rw [if_neg k6, if_neg k6]
    by_cases h2 : b < G.1
    · have i2 := ib_n (show b < 2147483648 by omega) h2
      have hb12 : b < 12 := by omega
      have kb : f_X0_hasBlock 7 (nI b) x2 = some (1, x2) := by rw [kHB hk2 hV, if_pos i2]
      by_cases k7 : nI k = 7
      · rw [if_pos k7, if_pos k7, kb, z_bnd, if_neg one0, if_neg (show ¬ G.1 ≤ b by omega), z_in hb12 (by omega), z_chk, z_chk, z_N (show b < 2147483648 by omega), r2.2.2.2.2.2.1 b hb12, s3.1 b hb12, ite_10, ite_10]
        exact ⟨_, x2, y2, rfl, rfl, by split <;> simp, hk2, hz2, r3, s4⟩
      rw [if_neg k7, if_neg k7]
      by_cases k8 : nI k = 8
      · rw [if_pos k8, if_pos k8, kb, z_bnd, if_neg one0, if_neg (show ¬ G.1 ≤ b by omega), kPas hV hF r2 ha12, z_bnd, mPas hV hF hz2 ha12, z_bnd, mHas _ hb12, z_bnd, bit_bm _ hb12, ite_01, ite_01]
        exact ⟨_, x2, y2, rfl, rfl, by split <;> simp, hk2, hz2, r3, s4⟩
      rw [if_neg k8, if_neg k8]
      exact ⟨0, x2, y2, rfl, rfl, Or.inl rfl, hk2, hz2, r3, s4⟩
    · have i2 := ib_no (show b < 2147483648 by omega) h2
      have kb : f_X0_hasBlock 7 (nI b) x2 = some (0, x2) := by rw [kHB hk2 hV, if_neg i2]
      rw [kb, z_bnd, if_pos rfl, z_bnd, if_pos rfl, if_pos (show G.1 ≤ b by omega), if_pos (show G.1 ≤ b by omega), ite_self, ite_self, ite_self, ite_self]
      exact ⟨0, x2, y2, rfl, rfl, Or.inl rfl, hk2, hz2, r3, s4⟩
  · have i1 := ib_no (show a < 2147483648 by omega) h1
    rw [ref0, if_neg h1]
    refine ⟨0, x, y2, ?_, rfl, Or.inl rfl, hk, hz2, eK.rf x, s4⟩
    unfold f_X7_isSaidOfBlock
    simp only [kHB hk hV, if_neg i1, z_bnd, if_true]
theorem hasFig {t : Nat} (ht : t < 1000) : (nI t / 100 = nI (t / 100)) ∧ (nI t / 10 - nI t / 10 / 10 * 10 = nI (t / 10 % 10)) ∧ (nI t - nI t / 10 * 10 = nI (t % 10)) := by
  have d1 : nI t / 10 = nI (t / 10) := pk_div (d := 10) (by omega) (by omega) (by omega)
  refine ⟨pk_div (d := 100) (by omega) (by omega) (by omega), ?_, pk_rem (d := 10) (by omega) (by omega) (by omega)⟩
  rw [d1]
  exact pk_rem (d := 10) (by omega) (by omega) (by omega)
theorem holds_does {x y : nz_S} {G : zG} (hV : zV G) (hk : zK x 7 G) (hz : zM y 4 G) {t : Nat} (ht : t < 1000) : ∃ r x' y', f_X7_holds (nI (t / 100)) (nI (t / 10 % 10)) (nI (t % 10)) x = some (r, x') ∧ f_X8_does (nI t) y = some (r, y') ∧ (∃ G', zV G' ∧ zK x' 7 G' ∧ zM y' 4 G') ∧ eK x x' ∧ fR 4 y y' := by
  obtain ⟨f1, f2, f3⟩ := hasFig ht
  obtain ⟨k, hkk⟩ : ∃ k, k = t / 100 := ⟨_, rfl⟩
  obtain ⟨a, haa⟩ : ∃ a, a = t / 10 % 10 := ⟨_, rfl⟩
  obtain ⟨b, hbb⟩ : ∃ b, b = t % 10 := ⟨_, rfl⟩
  unfold f_X8_does f_X7_holds
  simp only [f1, f2, f3]
  rw [← hkk, ← haa, ← hbb]
  have ka : k < 10 := by omega
  have aa : a < 10 := by omega
  have ba : b < 10 := by omega
  by_cases k1 : nI k = 1
  · obtain ⟨r, x', y', G', q1, q2, q3, q4, q5, q6, q7⟩ := tAdd hV hk hz (a := a) (b := b) (by omega) (by omega)
    rw [if_pos k1, if_pos k1, q1, z_bnd, q2, z_bnd, bo_p2, z_chk, ite_01]
    exact ⟨_, x', y', rfl, rfl, ⟨G', q3, q4, q5⟩, q6, q7⟩
  rw [if_neg k1, if_neg k1]
  by_cases k2 : nI k = 2
  · obtain ⟨r, x', y', G', q1, q2, q3, q4, q5, q6, q7⟩ := tCut hV hk hz (a := a) (b := b) (by omega) (by omega)
    rw [if_pos k2, if_pos k2, q1, z_bnd, q2, z_bnd, bo_p2, z_chk, ite_01]
    exact ⟨_, x', y', rfl, rfl, ⟨G', q3, q4, q5⟩, q6, q7⟩
  rw [if_neg k2, if_neg k2]
  by_cases k3 : nI k = 3
  · obtain ⟨r, x', y', G', q1, q2, q3, q4, q5, q6, q7⟩ := tSplit hV hk hz (a := a) (b := b) (by omega) (by omega)
    rw [if_pos k3, if_pos k3, q1, z_bnd, q2, z_bnd, bo_p2, z_chk, ite_01]
    exact ⟨_, x', y', rfl, rfl, ⟨G', q3, q4, q5⟩, q6, q7⟩
  rw [if_neg k3, if_neg k3]
  by_cases k4 : nI k = 4
  · obtain ⟨x2, y2, r1, r2, r3, hk2, s1, s2, s3, s4, hz2⟩ := surv4 hV hk hz
    have hF := dfs_F hV
    rw [if_pos k4, r1, z_bnd]
    unfold f_X8_isSo
    rw [s1, z_bnd, if_pos k4, kTam hV hF r2, z_bnd, mTam hV hF s2 hz2, z_bnd, ite_01, ite_01]
    by_cases ca : nI a = 0
    · rw [if_pos ca, if_pos ca]
      by_cases cb : nI b = 0
      · rw [if_pos cb, if_pos cb, z_bnd, bo_p2, z_chk]
        exact ⟨_, x2, y2, rfl, rfl, ⟨G, hV, hk2, hz2⟩, r3, s4⟩
      · rw [if_neg cb, if_neg cb, z_bnd, show nz_bo 0 = true from rfl, z_chk]
        exact ⟨_, x2, y2, rfl, rfl, ⟨G, hV, hk2, hz2⟩, r3, s4⟩
    · rw [if_neg ca, if_neg ca, z_bnd, show nz_bo 0 = true from rfl, z_chk]
      exact ⟨_, x2, y2, rfl, rfl, ⟨G, hV, hk2, hz2⟩, r3, s4⟩
  rw [if_neg k4]
  obtain ⟨r, x', y', q1, q2, q3, q4, q5, q6, q7⟩ := saidIs hV hk hz (k := k) (a := a) (b := b) ka (fun e => k4 (by rw [e]; rfl)) aa ba
  have hbo : nz_bo r = true := by rcases q3 with rfl | rfl <;> rfl
  rw [q1, z_bnd, q2, z_bnd, hbo, z_chk, z_chk]
  exact ⟨r, x', y', rfl, rfl, ⟨G, hV, q4, q5⟩, q6, q7⟩
theorem lN_nz {m : Nat} (h0 : 0 < m) (h : m < 2 ^ 63) : (lN m != 0) = true := by
  rw [bne_iff_ne]
  intro e
  have := (pk_lEQ h (show 0 < 2 ^ 63 by decide)).mp e
  omega
theorem jdg_44 {n r : Nat} (hn : n ≤ 4) (hr : r < 2 ^ 63) : ∀ m k fu (G : zG) (x y : nz_S), k + m = n → m < fu → zV G → zK x 7 G → zM y 4 G → ∃ ans x' y', f_X7_judge_44 (nI n) (lN r) fu (nI k) x (fun _ z => some (-9, z)) = some (ans, x') ∧ f_X8_judge_44 (nI n) (lN r) fu (nI k) y (fun _ z => some (-9, z)) = some (ans, y') ∧ eK x x' ∧ fR 4 y y'
  | 0, k, fu + 1, G, x, y, e, _, hV, hk, hz => by
    have : k = n := by omega
    subst this
    refine ⟨-9, x, y, ?_, ?_, eK.rf x, fR.rf 4 y⟩
    · rw [f_X7_judge_44, if_pos ((z_le (by omega) (by omega)).mpr (Nat.le_refl _))]
    · rw [f_X8_judge_44, if_pos ((z_le (by omega) (by omega)).mpr (Nat.le_refl _))]
  | m + 1, k, fu + 1, G, x, y, e, hf, hV, hk, hz => by
    obtain ⟨e', he⟩ : ∃ e', e' = n - 1 - k := ⟨_, rfl⟩
    have he4 : e' < 4 := by omega
    have s1 : nI n - 1 - nI k = nI e' := by
      rw [show (1 : Int32) = nI 1 from rfl, pk_sub (by omega), pk_sub (by omega), he]
    have s2 : (3 : Int32) * nI e' = nI (3 * e') := by rw [show (3 : Int32) = nI 3 from rfl, pk_mul]
    have s3 : nI (3 * e') + 2 = nI (3 * e' + 2) := by rw [show (2 : Int32) = nI 2 from rfl, nI_add]
    have p1000 : 1000 ^ e' < 2 ^ 63 ∧ 0 < 1000 ^ e' := by
      rcases (show e' = 0 ∨ e' = 1 ∨ e' = 2 ∨ e' = 3 by omega) with h | h | h | h <;> rw [h] <;> decide
    have hpw : 10 ^ (3 * e') = 1000 ^ e' := by rw [Nat.pow_mul]
    obtain ⟨u, hu⟩ : ∃ u, u = r / 1000 ^ e' := ⟨_, rfl⟩
    have hu63 : u < 2 ^ 63 := by rw [hu]; exact Nat.lt_of_le_of_lt (Nat.div_le_self _ _) hr
    have g0 : r / 10 ^ (3 * e') % 10 = u % 1000 % 10 := by rw [hpw, ← hu]; omega
    have g1 : r / 10 ^ (3 * e' + 1) % 10 = u % 1000 / 10 % 10 := by
      rw [Nat.pow_succ, hpw, ← Nat.div_div_eq_div_mul, ← hu]; omega
    have g2 : r / 10 ^ (3 * e' + 2) % 10 = u % 1000 / 100 := by
      rw [show 3 * e' + 2 = (3 * e' + 1) + 1 by omega, Nat.pow_succ, Nat.pow_succ, hpw, ← Nat.div_div_eq_div_mul, ← Nat.div_div_eq_div_mul, ← hu]; omega
    have m1 : lN r / lN (1000 ^ e') = lN u := by rw [pk_lDiv hr p1000.2 p1000.1, hu]
    have m2 : (lN u - lN u / 1000 * 1000).toInt32 = nI (u % 1000) := by
      rw [show (1000 : Int64) = lN 1000 from rfl, pk_lRem hu63 (by omega) (by omega), lN_i]
    obtain ⟨v, x', y', q1, q2, ⟨G', q3, q4, q5⟩, q6, q7⟩ := holds_does hV hk hz (t := u % 1000) (by omega)
    have kc : f_X7_judge_44 (nI n) (lN r) (fu + 1) (nI k) x (fun _ z => some (-9, z)) = if v = 0 then some (nI k, x') else f_X7_judge_44 (nI n) (lN r) fu (nI (k + 1)) x' (fun _ z => some (-9, z)) := by
      rw [f_X7_judge_44, if_neg (by rw [z_le (by omega) (by omega)]; omega)]
      simp only [s1, s2, s3, nI_1, kFig hr (show 3 * e' + 2 < 900 by omega), kFig hr (show 3 * e' + 1 < 900 by omega), kFig hr (show 3 * e' < 900 by omega), z_bnd, g0, g1, g2, q1]
    have mc : f_X8_judge_44 (nI n) (lN r) (fu + 1) (nI k) y (fun _ z => some (-9, z)) = if v = 0 then some (nI k, y') else f_X8_judge_44 (nI n) (lN r) fu (nI (k + 1)) y' (fun _ z => some (-9, z)) := by
      rw [f_X8_judge_44, if_neg (by rw [z_le (by omega) (by omega)]; omega)]
      simp only [s1, nI_1, mLp (show e' < 900 by omega), z_bnd, lN_nz p1000.2 p1000.1, z_chk, m1, m2, q2]
    rw [kc, mc]
    by_cases hv : v = 0
    · rw [if_pos hv, if_pos hv]
      exact ⟨nI k, x', y', rfl, rfl, q6, q7⟩
    · rw [if_neg hv, if_neg hv]
      obtain ⟨ans, x2, y2, w1, w2, w3, w4⟩ := jdg_44 hn hr m (k + 1) fu G' x' y' (by omega) (by omega) q3 q4 q5
      exact ⟨ans, x2, y2, w1, w2, q6.tr w3, q7.tr w4⟩
theorem sim_judge (v : Int32) (w : Int64) (a b : nz_S) (h : zR a b) : nz_both zR (f_X7_judge v w a) (f_X8_judge v w b) := by
  obtain ⟨-, ⟨G, hV, hk, hm⟩, -⟩ := id h
  have hk : zK a 3 G := hk
  have hm : zM b 3 G := hm
  have em : eM b (nz_put b 0 0 0) := eM_put0 _ _ _ (by omega)
  have hm0 : zM (nz_put b 0 0 0) 3 G := zM_eq hm (em.1 3 (by omega))
  by_cases hn : 1 ≤ v.toInt ∧ v.toInt ≤ 4
  · have hn0 := hn
    obtain ⟨n, hn5, rfl⟩ := ib_ex (v := v) (n := 5) ⟨by omega, by omega⟩
    rw [nI_toInt (by omega)] at hn
    have c1 : ¬ nI n < 1 := by rw [show (1 : Int32) = nI 1 from rfl, z_lt (by omega) (by omega)]; omega
    have c2 : ¬ (4 : Int32) < nI n := by rw [show (4 : Int32) = nI 4 from rfl, z_lt (by omega) (by omega)]; omega
    have hp : 10 ^ (3 * n) = 1000 ^ n := by rw [Nat.pow_mul]
    have hp63 : 1000 ^ n < 2 ^ 63 ∧ 0 < 1000 ^ n := by
      rcases (show n = 1 ∨ n = 2 ∨ n = 3 ∨ n = 4 by omega) with h | h | h | h <;> rw [h] <;> decide
    have s2 : (3 : Int32) * nI n = nI (3 * n) := by rw [show (3 : Int32) = nI 3 from rfl, pk_mul]
    have s4 : lN (1000 ^ n) - 1 = lN (1000 ^ n - 1) := by rw [show (1 : Int64) = lN 1 from rfl, lN_sub (by omega)]
    have qi : f_X8_in (nI n).toInt64 1 4 (nz_put b 0 0 0) = some (1, nz_put b 0 0 0) := by rw [in_eqI, l1, l4, if_pos hn0]
    by_cases hw : w < 0
    · refine ⟨-2, a, nz_put b 0 0 0, ?_, ?_, h.eq (eK.rf a) em⟩
      · rw [f_X7_judge, if_neg c1, if_neg c2, if_pos ((lc_lt _ _).mpr hw)]
      · unfold f_X8_judge
        have : ¬ ((0 : Int64) ≤ w ∧ w ≤ lN (1000 ^ n - 1)) := by rw [fa_le64]; rw [fa_lt64] at hw; omega
        simp only [qi, if_true, z_bnd, one0, if_false, mLp (show n < 900 by omega), s4, in_eq, this]
    · obtain ⟨r, hr, rfl⟩ := pk_lOf hw
      by_cases hlt : r < 1000 ^ n
      · have b1 : ¬ lg_cmp (lN r) 0 < 0 := fun q => hw ((lc_lt _ _).mp q)
        have b2 : lg_cmp (lN r) (lN (10 ^ (3 * n))) < 0 := (lc_lt _ _).mpr (by rw [hp, pk_lLT hr hp63.1]; exact hlt)
        have b3 : (0 : Int64) ≤ lN r ∧ lN r ≤ lN (1000 ^ n - 1) := ⟨by rw [show (0 : Int64) = lN 0 from rfl, pk_lLE (by decide) hr]; omega, by rw [pk_lLE hr (by omega)]; omega⟩
        obtain ⟨a1, t1, t2, t3, t4⟩ := kTry hV hk
        obtain ⟨g1, g2, g3⟩ := begin_M hV hm0
        obtain ⟨ans, x', y', w1, w2, w3, w4⟩ := jdg_44 (n := n) (by omega) hr n 0 nz_F G a1 _ (by omega) (by unfold nz_F; omega) hV t2 g1
        rw [nI_0] at w1 w2
        refine ⟨ans, x', y', ?_, ?_, h.eq (t4.tr w3) ((em.tr g3).tr w4.eM4)⟩
        · rw [f_X7_judge, if_neg c1, if_neg c2, if_neg b1, s2, kTens (by omega), z_bnd, if_pos b2, t1, z_bnd]
          exact w1
        · unfold f_X8_judge
          simp only [qi, and_self, if_true, z_bnd, one0, if_false, mLp (show n < 900 by omega), s4, in_eq, b3, mBegin]
          exact w2
      · have b1 : ¬ lg_cmp (lN r) 0 < 0 := fun q => hw ((lc_lt _ _).mp q)
        have b2 : ¬ lg_cmp (lN r) (lN (10 ^ (3 * n))) < 0 := fun q => hlt (by
          have := (lc_lt _ _).mp q
          rw [hp, pk_lLT hr hp63.1] at this
          exact this)
        have b3 : ¬ ((0 : Int64) ≤ lN r ∧ lN r ≤ lN (1000 ^ n - 1)) := fun q => by
          have := q.2
          rw [pk_lLE hr (by omega)] at this
          omega
        refine ⟨-2, a, nz_put b 0 0 0, ?_, ?_, h.eq (eK.rf a) em⟩
        · rw [f_X7_judge, if_neg c1, if_neg c2, if_neg b1, s2, kTens (by omega), z_bnd, if_neg b2]
        · unfold f_X8_judge
          simp only [qi, if_true, z_bnd, one0, if_false, mLp (show n < 900 by omega), s4, in_eq, b3]
  · refine ⟨-2, a, nz_put b 0 0 0, ?_, ?_, h.eq (eK.rf a) em⟩
    · by_cases c1 : v < 1
      · rw [f_X7_judge, if_pos c1]
      · have c2 : (4 : Int32) < v := by rw [fa_lt, i4]; rw [fa_lt, i1] at c1; omega
        rw [f_X7_judge, if_neg c1, if_pos c2]
    · unfold f_X8_judge
      simp only [in_eqI, l1, l4, hn, if_false, z_bnd, if_true]
