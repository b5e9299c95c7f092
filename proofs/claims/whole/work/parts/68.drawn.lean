/-! longs of 64 bits, ints within bounds: rows of the kit's texts for pasting -/
theorem wb_tb (n : Nat) : (lN n).toBitVec = BitVec.ofNat 64 n := rfl
theorem wb_inj {a b : Int64} (h : a.toBitVec = b.toBitVec) : a = b := Int64.toBitVec_inj.mp h
theorem wb_tn {n : Nat} (h : n < 2 ^ 64) : (lN n).toBitVec.toNat = n := by rw [wb_tb, BitVec.toNat_ofNat, Nat.mod_eq_of_lt h]
theorem wb_of (x : Int64) : ∃ n, n < 2 ^ 64 ∧ x = lN n := ⟨x.toBitVec.toNat, x.toBitVec.isLt, wb_inj (by rw [wb_tb]; simp)⟩
theorem wb_of32 (x : Int32) : ∃ n, n < 2 ^ 32 ∧ x = nI n := ⟨x.toBitVec.toNat, x.toBitVec.isLt, Int32.toBitVec_inj.mp (by show _ = BitVec.ofNat 32 _; simp)⟩
theorem wb_c : ∀ k, k < 64 → ((nI k).toInt64 &&& 63) = lN k := by decide +kernel
theorem wb_cu : ∀ k, k < 64 → ((nI k).toInt64.toUInt64 &&& Int64.toUInt64 63) = UInt64.ofNat k := by decide +kernel
theorem wb_sm : ∀ k, k < 64 → (BitVec.ofNat 64 k).smod 64 = BitVec.ofNat 64 k := by decide +kernel
theorem wb_pw {a b : Nat} (h : a ≤ b) : 2 ^ b = 2 ^ a * 2 ^ (b - a) := by rw [← Nat.pow_add]; congr 1; omega
theorem wb_lt2 {a b : Nat} (h : a < b) : 2 ^ a < 2 ^ b := Nat.pow_lt_pow_right (by decide) h
theorem wb_mod (n : Nat) : lN n = lN (n % 2 ^ 64) := wb_inj (by rw [wb_tb, wb_tb]; apply BitVec.eq_of_toNat_eq; rw [BitVec.toNat_ofNat, BitVec.toNat_ofNat, Nat.mod_mod])
theorem wb_shr {n k : Nat} (hn : n < 2 ^ 64) (hk : k < 64) : ((lN n).toUInt64 >>> ((nI k).toInt64.toUInt64 &&& Int64.toUInt64 63)).toInt64 = lN (n / 2 ^ k) := by
  rw [wb_cu k hk]
  apply wb_inj
  apply BitVec.eq_of_toNat_eq
  show ((lN n).toUInt64 >>> UInt64.ofNat k).toNat = (BitVec.ofNat 64 _).toNat
  have h1 : (UInt64.ofNat k).toNat = k := by
    show (BitVec.ofNat 64 k).toNat = k
    rw [BitVec.toNat_ofNat, Nat.mod_eq_of_lt (by omega)]
  have h2 : (lN n).toUInt64.toNat = n := wb_tn hn
  rw [UInt64.toNat_shiftRight, h1, h2, Nat.mod_eq_of_lt hk, Nat.shiftRight_eq_div_pow, BitVec.toNat_ofNat, Nat.mod_eq_of_lt (Nat.lt_of_le_of_lt (Nat.div_le_self _ _) hn)]
theorem fb_rng (x : Int32) : -2147483648 ≤ x.toInt ∧ x.toInt < 2147483648 := by
  have h1 := Int32.le_toInt x
  have h2 := Int32.toInt_lt x
  omega
theorem fb_bmod {z : Int} (h1 : -2147483648 ≤ z) (h2 : z < 2147483648) : z.bmod (2 ^ 32) = z := by
  rw [Int.bmod_eq_of_le (by omega) (by omega)]
theorem fb_addI {x y : Int32} (h1 : -2147483648 ≤ x.toInt + y.toInt) (h2 : x.toInt + y.toInt < 2147483648) : (x + y).toInt = x.toInt + y.toInt := by
  rw [Int32.toInt_add, fb_bmod h1 h2]
theorem fb_subI {x y : Int32} (h1 : -2147483648 ≤ x.toInt - y.toInt) (h2 : x.toInt - y.toInt < 2147483648) : (x - y).toInt = x.toInt - y.toInt := by
  rw [Int32.toInt_sub, fb_bmod h1 h2]
theorem fb_mulI {x y : Int32} (h1 : -2147483648 ≤ x.toInt * y.toInt) (h2 : x.toInt * y.toInt < 2147483648) : (x * y).toInt = x.toInt * y.toInt := by
  rw [Int32.toInt_mul, fb_bmod h1 h2]
theorem fb_negI {x : Int32} (h : x.toInt ≠ -2147483648) : (-x).toInt = -x.toInt := by
  have := fb_rng x
  rw [Int32.toInt_neg, fb_bmod (by omega) (by omega)]
/-! ===== DRAWN ===== -/
def eK1 (x x' : nz_S) : Prop := ∀ c, c < 7 ∨ 19 < c → x'.1 c = x.1 c
def eM1 (b b' : nz_S) : Prop := (∀ c, c = 1 ∨ c = 3 ∨ (5 ≤ c ∧ c ≤ 10) → b'.1 c = b.1 c) ∧ b'.1 0 2 = b.1 0 2 ∧ b'.1 0 8 = b.1 0 8 ∧ b'.1 0 11 = b.1 0 11
theorem eM1.tr {a b c : nz_S} (h : eM1 a b) (h2 : eM1 b c) : eM1 a c := ⟨fun k hk => (h2.1 k hk).trans (h.1 k hk), h2.2.1.trans h.2.1, h2.2.2.1.trans h.2.2.1, h2.2.2.2.trans h.2.2.2⟩
theorem eM.e1 {b b' : nz_S} (h : eM b b') : eM1 b b' := ⟨h.1, h.2.1, h.2.2.1, h.2.2.2.1⟩
theorem zR.lng {a b a' b' : nz_S} (h : zR a b) (ha : eK1 a a') (hb : eM1 b b') (he : a'.2 = b'.2) : zR a' b' := by
  obtain ⟨h1, h2, h3, h4, h5, h6⟩ := h
  have h0 : zR (nz_lng a a'.2) (nz_lng b b'.2) := ⟨h1, h2, h3, h4, h5, he⟩
  exact h0.eq ⟨ha, rfl⟩ ⟨hb.1, hb.2.1, hb.2.2.1, hb.2.2.2, rfl⟩
theorem drw_n {n : Nat} (hn : n < 2147483648) : (nI n - nI n / 8 * 8 = nI (n % 8)) ∧ (nI n / 8 - nI n / 8 / 8 * 8 = nI (n / 8 % 8)) ∧ (nI n / 64 - nI n / 64 / 4 * 4 = nI (n / 64 % 4)) := by
  have d1 : nI n / 8 = nI (n / 8) := pk_div (d := 8) (by omega) (by omega) (by omega)
  have d2 : nI n / 64 = nI (n / 64) := pk_div (d := 64) (by omega) (by omega) (by omega)
  refine ⟨pk_rem (d := 8) (by omega) (by omega) (by omega), ?_, ?_⟩
  · rw [d1]; exact pk_rem (d := 8) (by omega) (by omega) (by omega)
  · rw [d2]; exact pk_rem (d := 4) (by omega) (by omega) (by omega)
theorem drw_v (v : Int64) : ∃ d, d < 2147483648 ∧ (((v).toUInt64 >>> (((33 : Int32)).toInt64.toUInt64 &&& Int64.toUInt64 63)).toInt64).toInt32 = nI d := by
  obtain ⟨m, hm, rfl⟩ := wb_of v
  refine ⟨m / 2 ^ 33, by omega, ?_⟩
  have := wb_shr hm (show 33 < 64 by omega)
  rw [show (33 : Int32) = nI 33 from rfl, this, lN_i]
theorem tDraw {x y : nz_S} {G : zG} (hV : zV G) (hk : zK x 7 G) (hz : zM y 4 G) {d : Nat} (hd : d < 2147483648) : ∃ x' y' G', f_X7_changeByDraw (nI d) x = some ((), x') ∧ (∀ (Z : nz_S → Option (Int32 × nz_S)), (if (3 : Int32) ≤ (nI d / 64 - nI d / 64 / 4 * 4) then nz_bnd (f_X8_cuts (nI d - nI d / 8 * 8) 0 y) fun _ z => Z z else nz_bnd (f_X8_adds (nI d - nI d / 8 * 8) (nI d / 8 - nI d / 8 / 8 * 8) y) fun _ z => Z z) = Z y') ∧ zV G' ∧ zK x' 7 G' ∧ zM y' 4 G' ∧ eK x x' ∧ fR 4 y y' := by
  obtain ⟨d1, d2, d3⟩ := drw_n hd
  unfold f_X7_changeByDraw
  simp only [d1, d2, d3]
  by_cases h : d / 64 % 4 = 3
  · obtain ⟨r, x', y', G', q1, q2, q3, q4, q5, q6, q7⟩ := tCut hV hk hz (a := d % 8) (b := 0) (by omega) (by omega)
    refine ⟨x', y', G', ?_, fun Z => ?_, q3, q4, q5, q6, q7⟩
    · rw [if_pos (by rw [h]; rfl)]
      rw [nI_0] at q1
      rw [q1, z_bnd]
    · rw [if_pos (by rw [h]; decide)]
      rw [nI_0] at q2
      rw [q2, z_bnd]
  · obtain ⟨r, x', y', G', q1, q2, q3, q4, q5, q6, q7⟩ := tAdd hV hk hz (a := d % 8) (b := d / 8 % 8) (by omega) (by omega)
    refine ⟨x', y', G', ?_, fun Z => ?_, q3, q4, q5, q6, q7⟩
    · rw [if_neg (by rw [show (3 : Int32) = nI 3 from rfl, z_eq (by omega) (by omega)]; exact h), q1, z_bnd]
    · rw [if_neg (by rw [show (3 : Int32) = nI 3 from rfl, z_le (by omega) (by omega)]; omega), q2, z_bnd]
theorem drw_29 {m : Nat} (hm : m ≤ 20) : ∀ n k fu (s : Int32) (G : zG) (x y : nz_S), k + n = m → n < fu → zV G → zK x 7 G → zM y 4 G → x.2 = y.2 → ∃ ans x' y', f_X7_drawn_29 (nI m) fu s (nI k) x (fun u _ z => some (u, z)) = some (ans, x') ∧ f_X8_drawn_28 (nI m) fu s (nI k) y (fun u _ z => some (u, z)) = some (ans, y') ∧ eK1 x x' ∧ eM1 y y' ∧ x'.2 = y'.2
  | 0, k, fu + 1, s, G, x, y, e, _, hV, hk, hz, he => by
    have : k = m := by omega
    subst this
    refine ⟨s, x, y, ?_, ?_, fun _ _ => rfl, (eM.rf y).e1, he⟩
    · rw [f_X7_drawn_29, if_pos ((z_le (by omega) (by omega)).mpr (Nat.le_refl _))]
    · rw [f_X8_drawn_28, if_pos ((z_le (by omega) (by omega)).mpr (Nat.le_refl _))]
  | n + 1, k, fu + 1, s, G, x, y, e, hf, hV, hk, hz, he => by
    obtain ⟨v, hv⟩ : ∃ v, v = (y.2 * (6364136223846793005 : Int64)) + (1442695040888963407 : Int64) := ⟨_, rfl⟩
    obtain ⟨d, hd, hdv⟩ := drw_v v
    have hk7 : zK (nz_lng x v) 7 G := hk
    have hz10 : zM (nz_lng y v) 4 G := hz
    obtain ⟨x1, y1, G1, q1, q2, q3, q4, q5, q6, q7⟩ := tDraw hV hk7 hz10 hd
    obtain ⟨x2, y2, r1, r2, r3, hk2, s1, s2, s3, s4, hz2⟩ := surv4 q3 q4 q5
    have hF := dfs_F q3
    have hU := wrk_U hF
    have c1 := kCt r2.2.2.2.2.2.2.1 hU.2.2.1
    have c2 := mCt q3 hF hU (m := 1) (by omega) s2 s3
    have e2 : x2.2 = y2.2 := by rw [r3.2, q6.2, s4.2.2, q7.2.2]; rfl
    obtain ⟨ans, x', y', w1, w2, w3, w4, w5⟩ := drw_29 hm n (k + 1) fu (s + nI (cts (wrk G1 (dfs G1)) 1)) G1 x2 y2 (by omega) (by omega) q3 hk2 hz2 e2
    refine ⟨ans, x', y', ?_, ?_, fun c hc => ?_, ?_, w5⟩
    · rw [f_X7_drawn_29, if_neg (by rw [z_le (by omega) (by omega)]; omega), he, ← hv]
      have hl : (nz_lng x v).2 = v := rfl
      simp only [hl, hdv, q1, z_bnd, r1, c1, nI_1]
      exact w1
    · rw [f_X8_drawn_28, if_neg (by rw [z_le (by omega) (by omega)]; omega), ← hv]
      have hl : (nz_lng y v).2 = v := rfl
      simp only [hl, hdv, nI_1]
      refine (q2 (fun z => nz_bnd (f_X8_find 4 z) fun _ x18 => nz_bnd (f_X8_kinds 1 x18) fun r20 x21 => f_X8_drawn_28 (nI m) fu (s + r20) (nI (k + 1)) x21 (fun u _ z => some (u, z)))).trans ?_
      rw [show (1 : Int32) = nI 1 from rfl]
      simp only [s1, z_bnd, c2]
      exact w2
    · rw [w3 c hc, r3.1 c hc, q6.1 c hc]; rfl
    · exact ((show eM1 y (nz_lng y v) from ⟨fun _ _ => rfl, rfl, rfl, rfl⟩).tr (q7.tr s4).eM4.e1).tr w4
theorem l20 : (20 : Int64).toInt = 20 := by decide
theorem sim_drawn (v : Int32) (a b : nz_S) (h : zR a b) : nz_both zR (f_X7_drawn v a) (f_X8_drawn v b) := by
  obtain ⟨-, ⟨G, hV, hk, hm⟩, -, -, -, h6⟩ := id h
  have hk : zK a 3 G := hk
  have hm : zM b 3 G := hm
  have em : eM b (nz_put b 0 0 0) := eM_put0 _ _ _ (by omega)
  have hm0 : zM (nz_put b 0 0 0) 3 G := zM_eq hm (em.1 3 (by omega))
  by_cases hw : 1 ≤ v.toInt ∧ v.toInt ≤ 20
  · have hw0 := hw
    obtain ⟨m, hm3, rfl⟩ := ib_ex (v := v) (n := 21) ⟨by omega, by omega⟩
    rw [nI_toInt (by omega)] at hw
    have c1 : ¬ nI m < 1 := by rw [show (1 : Int32) = nI 1 from rfl, z_lt (by omega) (by omega)]; omega
    have c2 : nI m ≤ 20 := (z_le (b := 20) (by omega) (by omega)).mpr (by omega)
    obtain ⟨a1, t1, t2, t3, t4⟩ := kTry hV hk
    obtain ⟨g1, g2, g3⟩ := begin_M hV hm0
    obtain ⟨ans, x', y', w1, w2, w3, w4, w5⟩ := drw_29 (m := m) (by omega) m 0 nz_F 0 G a1 (zcp (nz_put b 0 0 0) 3 0 4 0 61) (by omega) (by unfold nz_F; omega) hV t2 g1 (by rw [t4.2, zcp_2, z_put2]; exact h6)
    rw [nI_0] at w1 w2
    refine ⟨ans, x', y', ?_, ?_, h.lng (fun c hc => by rw [w3 c hc, t4.1 c hc]) ((em.tr g3).e1.tr w4) w5⟩
    · rw [f_X7_drawn, if_neg c1, if_pos c2, t1, z_bnd]
      exact w1
    · unfold f_X8_drawn
      simp only [in_eqI, l1, l20, hw0, and_self, if_true, z_bnd, one0, if_false, mBegin]
      exact w2
  · refine ⟨-2, a, nz_put b 0 0 0, ?_, ?_, h.eq (eK.rf a) em⟩
    · by_cases c1 : v < 1
      · rw [f_X7_drawn, if_pos c1]
      · have c2 : ¬ v ≤ 20 := by rw [fa_le, show (20 : Int32).toInt = 20 by decide]; rw [fa_lt, i1] at c1; omega
        rw [f_X7_drawn, if_neg c1, if_neg c2]
    · unfold f_X8_drawn
      simp only [in_eqI, l1, l20, hw, if_false, z_bnd, if_true]
