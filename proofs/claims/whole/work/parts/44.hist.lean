/-! ===== shelves: history and slots ===== -/
theorem cpok_t {s d m n0 n1 : Nat} (hs : s < 2147483648) (hd : d < 2147483648) (hm : m < 2147483648) (h1 : s + m ≤ n0) (h2 : d + m ≤ n1) : nz_cpok (nI s) (nI d) (nI m) n0 n1 = true := by
  unfold nz_cpok
  rw [nI_clamp hs, nI_clamp hd, nI_clamp hm]
  exact decide_eq_true ⟨nI_pos hs, nI_pos hd, nI_pos hm, h1, h2⟩
theorem kStore (h n g a : Nat) (x : nz_S) (ha : a < n) (hn : n ≤ 14) (hg : g + 3 < h) : ∃ x', f_X2_store h n g (nI a) x = some ((), x') ∧ (∀ k, x'.1 (h + 1) k = if k = a then x.1 g 3 else x.1 (h + 1) k) ∧ (∀ k, x'.1 (h + 2) k = if 12 * a ≤ k ∧ k < 12 * a + 12 then x.1 (g + 1) (k - 12 * a) else x.1 (h + 2) k) ∧ (∀ k, x'.1 (h + 3) k = if 12 * a ≤ k ∧ k < 12 * a + 12 then x.1 (g + 2) (k - 12 * a) else x.1 (h + 3) k) ∧ (∀ k, x'.1 (h + 4) k = if 36 * a ≤ k ∧ k < 36 * a + 36 then x.1 (g + 3) (k - 36 * a) else x.1 (h + 4) k) ∧ (∀ c, c ≤ h ∨ h + 4 < c → x'.1 c = x.1 c) ∧ x'.2 = x.2 := by
  have e12 : nI a * 12 = nI (12 * a) := by rw [show (12 : Int32) = nI 12 from rfl, pk_mul, Nat.mul_comm]
  have e36 : nI (12 * a) * 3 = nI (36 * a) := by rw [show (3 : Int32) = nI 3 from rfl, pk_mul]; congr 1; omega
  have c1 : nz_cpok 0 (nI (12 * a)) 12 12 (n * 12) = true := cpok_t (s := 0) (m := 12) (by omega) (by omega) (by omega) (by omega) (by omega)
  have c2 : nz_cpok 0 (nI (36 * a)) 36 36 (n * 36) = true := cpok_t (s := 0) (m := 36) (by omega) (by omega) (by omega) (by omega) (by omega)
  have k1 : ¬ nI a < 0 := nI_pos (by omega)
  have k2 : nI a < nI n := (z_lt (by omega) (by omega)).mpr ha
  refine ⟨_, by simp only [f_X2_store, k1, k2, if_true, if_false, e12, e36, c1, c2, z_in ha (by omega), z_chk]; rfl, ?_, ?_, ?_, ?_, ?_, ?_⟩
  · intro k
    simp only [z_set1, z_put1, show ¬ h + 1 = h + 4 by omega, show ¬ h + 1 = h + 3 by omega, show ¬ h + 1 = h + 2 by omega, if_false, if_true, z_upd, z_N (show a < 2147483648 by omega)]
  · intro k
    simp only [z_set1, z_put1, show ¬ h + 2 = h + 4 by omega, show ¬ h + 2 = h + 3 by omega, show ¬ h + 2 = h + 1 by omega, show ¬ g + 1 = h + 1 by omega, if_false, if_true, va_cpy, z_N (show 12 * a < 2147483648 by omega), show ((0 : Int32)).toNatClampNeg = 0 from rfl, show ((12 : Int32)).toNatClampNeg = 12 from rfl, Nat.zero_add]
  · intro k
    simp only [z_set1, z_put1, show ¬ h + 3 = h + 4 by omega, show ¬ h + 3 = h + 2 by omega, show ¬ h + 3 = h + 1 by omega, show ¬ g + 2 = h + 1 by omega, show ¬ g + 2 = h + 2 by omega, if_false, if_true, va_cpy, z_N (show 12 * a < 2147483648 by omega), show ((0 : Int32)).toNatClampNeg = 0 from rfl, show ((12 : Int32)).toNatClampNeg = 12 from rfl, Nat.zero_add]
  · intro k
    simp only [z_set1, z_put1, show ¬ h + 4 = h + 3 by omega, show ¬ h + 4 = h + 2 by omega, show ¬ h + 4 = h + 1 by omega, show ¬ g + 3 = h + 1 by omega, show ¬ g + 3 = h + 2 by omega, show ¬ g + 3 = h + 3 by omega, if_false, if_true, va_cpy, z_N (show 36 * a < 2147483648 by omega), show ((0 : Int32)).toNatClampNeg = 0 from rfl, show ((36 : Int32)).toNatClampNeg = 36 from rfl, Nat.zero_add]
  · intro c hc
    simp only [z_set1, z_put1, show ¬ c = h + 4 by omega, show ¬ c = h + 3 by omega, show ¬ c = h + 2 by omega, show ¬ c = h + 1 by omega, if_false]
  · rfl
theorem kBring (h n g a : Nat) (x : nz_S) (ha : a < n) (hn : n ≤ 14) (hg : g + 3 < h) : ∃ x', f_X2_bringBack h n g (nI a) x = some ((), x') ∧ x'.1 g = upd (x.1 g) 3 (x.1 (h + 1) a) ∧ (∀ k, k < 12 → x'.1 (g + 1) k = x.1 (h + 2) (12 * a + k)) ∧ (∀ k, k < 12 → x'.1 (g + 2) k = x.1 (h + 3) (12 * a + k)) ∧ (∀ k, k < 36 → x'.1 (g + 3) k = x.1 (h + 4) (36 * a + k)) ∧ (∀ c, c < g ∨ g + 3 < c → x'.1 c = x.1 c) ∧ x'.2 = x.2 := by
  have e12 : nI a * 12 = nI (12 * a) := by rw [show (12 : Int32) = nI 12 from rfl, pk_mul, Nat.mul_comm]
  have e36 : nI (12 * a) * 3 = nI (36 * a) := by rw [show (3 : Int32) = nI 3 from rfl, pk_mul]; congr 1; omega
  have c1 : nz_cpok (nI (12 * a)) 0 12 (n * 12) 12 = true := cpok_t (d := 0) (m := 12) (by omega) (by omega) (by omega) (by omega) (by omega)
  have c2 : nz_cpok (nI (36 * a)) 0 36 (n * 36) 36 = true := cpok_t (d := 0) (m := 36) (by omega) (by omega) (by omega) (by omega) (by omega)
  have k1 : ¬ nI a < 0 := nI_pos (by omega)
  have k2 : nI a < nI n := (z_lt (by omega) (by omega)).mpr ha
  refine ⟨_, by simp only [f_X2_bringBack, k1, k2, if_true, if_false, e12, e36, c1, c2, z_in ha (by omega), z_chk]; rfl, ?_, ?_, ?_, ?_, ?_, ?_⟩
  · simp only [z_set1, z_put1, show ¬ g = g + 3 by omega, show ¬ g = g + 2 by omega, show ¬ g = g + 1 by omega, if_false, if_true, z_N (show a < 2147483648 by omega)]
  · intro k hk
    simp only [z_set1, z_put1, show ¬ g + 1 = g + 3 by omega, show ¬ g + 1 = g + 2 by omega, show ¬ g + 1 = g by omega, show ¬ h + 2 = g by omega, if_false, if_true, va_cpy, z_N (show 12 * a < 2147483648 by omega), show ((0 : Int32)).toNatClampNeg = 0 from rfl, show ((12 : Int32)).toNatClampNeg = 12 from rfl, Nat.zero_le, true_and, Nat.sub_zero]
    rw [if_pos (by omega)]
  · intro k hk
    simp only [z_set1, z_put1, show ¬ g + 2 = g + 3 by omega, show ¬ g + 2 = g + 1 by omega, show ¬ g + 2 = g by omega, show ¬ h + 3 = g by omega, show ¬ h + 3 = g + 1 by omega, if_false, if_true, va_cpy, z_N (show 12 * a < 2147483648 by omega), show ((0 : Int32)).toNatClampNeg = 0 from rfl, show ((12 : Int32)).toNatClampNeg = 12 from rfl, Nat.zero_le, true_and, Nat.sub_zero]
    rw [if_pos (by omega)]
  · intro k hk
    simp only [z_set1, z_put1, show ¬ g + 3 = g + 2 by omega, show ¬ g + 3 = g + 1 by omega, show ¬ g + 3 = g by omega, show ¬ h + 4 = g by omega, show ¬ h + 4 = g + 1 by omega, show ¬ h + 4 = g + 2 by omega, if_false, if_true, va_cpy, z_N (show 36 * a < 2147483648 by omega), show ((0 : Int32)).toNatClampNeg = 0 from rfl, show ((36 : Int32)).toNatClampNeg = 36 from rfl, Nat.zero_le, true_and, Nat.sub_zero]
    rw [if_pos (by omega)]
  · intro c hc
    simp only [z_set1, z_put1, show ¬ c = g + 3 by omega, show ¬ c = g + 2 by omega, show ¬ c = g + 1 by omega, show ¬ c = g by omega, if_false]
  · rfl
theorem kCopy (g g2 : Nat) (x : nz_S) (hg : g + 3 < g2 ∨ g2 + 3 < g) : ∃ x', f_X0_copyFrom g g2 x = some ((), x') ∧ x'.1 g = upd (x.1 g) 3 (x.1 g2 3) ∧ (∀ k, k < 12 → x'.1 (g + 1) k = x.1 (g2 + 1) k) ∧ (∀ k, k < 12 → x'.1 (g + 2) k = x.1 (g2 + 2) k) ∧ (∀ k, k < 36 → x'.1 (g + 3) k = x.1 (g2 + 3) k) ∧ (∀ c, c < g ∨ g + 3 < c → x'.1 c = x.1 c) ∧ x'.2 = x.2 := by
  refine ⟨_, rfl, ?_, ?_, ?_, ?_, ?_, ?_⟩
  · simp only [z_set1, z_put1, show ¬ g = g + 3 by omega, show ¬ g = g + 2 by omega, show ¬ g = g + 1 by omega, if_false, if_true]
  · intro k hk
    simp only [z_set1, z_put1, show ¬ g + 1 = g + 3 by omega, show ¬ g + 1 = g + 2 by omega, show ¬ g + 1 = g by omega, show ¬ g2 + 1 = g by omega, if_false, if_true, va_cpy, show ((0 : Int32)).toNatClampNeg = 0 from rfl, show ((12 : Int32)).toNatClampNeg = 12 from rfl, Nat.zero_le, true_and, Nat.sub_zero, Nat.zero_add]
    rw [if_pos (by omega)]
  · intro k hk
    simp only [z_set1, z_put1, show ¬ g + 2 = g + 3 by omega, show ¬ g + 2 = g + 1 by omega, show ¬ g + 2 = g by omega, show ¬ g2 + 2 = g by omega, show ¬ g2 + 2 = g + 1 by omega, if_false, if_true, va_cpy, show ((0 : Int32)).toNatClampNeg = 0 from rfl, show ((12 : Int32)).toNatClampNeg = 12 from rfl, Nat.zero_le, true_and, Nat.sub_zero, Nat.zero_add]
    rw [if_pos (by omega)]
  · intro k hk
    simp only [z_set1, z_put1, show ¬ g + 3 = g + 2 by omega, show ¬ g + 3 = g + 1 by omega, show ¬ g + 3 = g by omega, show ¬ g2 + 3 = g by omega, show ¬ g2 + 3 = g + 1 by omega, show ¬ g2 + 3 = g + 2 by omega, if_false, if_true, va_cpy, show ((0 : Int32)).toNatClampNeg = 0 from rfl, show ((36 : Int32)).toNatClampNeg = 36 from rfl, Nat.zero_le, true_and, Nat.sub_zero, Nat.zero_add]
    rw [if_pos (by omega)]
  · intro c hc
    simp only [z_set1, z_put1, show ¬ c = g + 3 by omega, show ¬ c = g + 2 by omega, show ¬ c = g + 1 by omega, show ¬ c = g by omega, if_false]
  · rfl
theorem kCopyG {x : nz_S} {g g2 : Nat} {G : zG} (hg : g + 3 < g2 ∨ g2 + 3 < g) (hV : zV G) (h : zK x g2 G) : ∃ x', f_X0_copyFrom g g2 x = some ((), x') ∧ zK x' g G ∧ (∀ c, c < g ∨ g + 3 < c → x'.1 c = x.1 c) ∧ x'.2 = x.2 := by
  obtain ⟨x', h1, h2, h3, h4, h5, h6, h7⟩ := kCopy g g2 x hg
  refine ⟨x', h1, ?_, h6, h7⟩
  exact zKf_cp hV h (by rw [h2]; rfl) (fun k hk => by simpa only [Nat.mul_zero, Nat.zero_add] using h3 k hk) (fun k hk => by simpa only [Nat.mul_zero, Nat.zero_add] using h4 k hk) (fun k hk => by simpa only [Nat.mul_zero, Nat.zero_add] using h5 k hk)
/-! ===== undo ===== -/
theorem i14 {k : Nat} (hk : k < 100) : nI k - nI k / 14 * 14 = nI (k % 14) := pk_rem (d := 14) (by omega) (by omega) (by omega)
theorem sim_undo (a b : nz_S) (h : zR a b) : nz_both zR (f_X7_undo a) (f_X8_undo b) := by
  have h0 := h
  obtain ⟨h1, h2, h3, h4, h5, h6⟩ := h
  obtain ⟨f, n, hg, hf, hn, e1, e2, e3, hh⟩ := h3
  have E0 : (nz_put b 0 0 0).1 0 8 = nI n := by rw [z_put1, if_pos rfl, z_upd, if_neg (by omega), e3]
  by_cases hn0 : n = 0
  · subst hn0
    refine ⟨-3, a, nz_put b 0 0 0, ?_, ?_, h0.eq (eK.rf a) (eM_put0 _ _ _ (by omega))⟩
    · simp only [f_X7_undo, e2, show nI 0 = 0 from rfl, if_true]
    · simp only [f_X8_undo, E0, show nI 0 = 0 from rfl, if_true]
  · have k1 : ¬ nI n = 0 := fun e => hn0 ((z_eq (b := 0) (by omega) (by omega)).mp e)
    have k2 : ¬ nI n ≤ 0 := nI_nle (by omega) (by omega)
    have em : nI n - 1 = nI (n - 1) := pk_sub (b := 1) (by omega)
    obtain ⟨g1, g2, g3⟩ := hh (n - 1) (by omega)
    -- the class
    obtain ⟨a2, q1, q2, q3, q4, q5, q6, q7⟩ := kBring 21 14 3 ((f + (n - 1)) % 14) (nz_put a 20 2 (nI (n - 1))) (Nat.mod_lt _ (by omega)) (by omega) (by omega)
    have a20 : a2.1 20 = upd (a.1 20) 2 (nI (n - 1)) := by rw [q6 20 (by omega)]; rfl
    have ao : ∀ c, (c < 3 ∨ 6 < c) → c ≠ 20 → a2.1 c = a.1 c := fun c hc hc2 => by rw [q6 c (by omega), z_put1, if_neg hc2]
    -- the reference
    have md : (nz_put (nz_put b 0 0 0) 0 8 (nI (n - 1))).1 0 8 = nI (n - 1) := by rw [z_put1, if_pos rfl, z_upd, if_pos rfl]
    have mu := mUndo_27 (nz_put (nz_put b 0 0 0) 0 8 (nI (n - 1))) (n - 1) (by omega) md (fun u11 x10 => some ((x10.1 0 8), x10)) 61 0 nz_F (by omega) (by decide)
    rw [zcp_0, nI_0] at mu
    refine ⟨nI (n - 1), a2, zcp (nz_put (nz_put b 0 0 0) 0 8 (nI (n - 1))) 5 (61 * (n - 1)) 3 0 61, ?_, ?_, ?_⟩
    · have r1 : (nz_put a 20 2 (nI (n - 1))).1 20 1 = nI f := by rw [z_put1, if_pos rfl, z_upd, if_neg (by omega), e1]
      have r2 : (nz_put a 20 2 (nI (n - 1))).1 20 2 = nI (n - 1) := by rw [z_put1, if_pos rfl, z_upd, if_pos rfl]
      simp only [f_X7_undo, e2, k1, if_false, f_X1_bringLastBack, k2, em, r1, r2, nI_add, i14 (show f + (n - 1) < 100 by omega), q1, z_bnd, a20, z_upd, if_true]
    · simp only [f_X8_undo, E0, k1, if_false, em]
      refine mu.trans ?_
      rw [zcp_o _ (show 0 ≠ 3 by omega), md]
    · have mc : ∀ c, c ≠ 0 → c ≠ 3 → (zcp (nz_put (nz_put b 0 0 0) 0 8 (nI (n - 1))) 5 (61 * (n - 1)) 3 0 61).1 c = b.1 c := fun c hc hc3 => by
        rw [zcp_o _ hc3, z_put1, if_neg hc, z_put1, if_neg hc]
      have m0 : ∀ i, i ≠ 0 → i ≠ 8 → (zcp (nz_put (nz_put b 0 0 0) 0 8 (nI (n - 1))) 5 (61 * (n - 1)) 3 0 61).1 0 i = b.1 0 i := fun i hi hi8 => by
        rw [zcp_o _ (show 0 ≠ 3 by omega), z_put1, if_pos rfl, z_upd, if_neg hi8, z_put1, if_pos rfl, z_upd, if_neg hi]
      unfold zR
      rw [mc 1 (by omega) (by omega), mc 5 (by omega) (by omega), mc 6 (by omega) (by omega), mc 7 (by omega) (by omega), mc 8 (by omega) (by omega), mc 9 (by omega) (by omega), mc 10 (by omega) (by omega), m0 2 (by omega) (by omega), m0 11 (by omega) (by omega), ao 1 (by omega) (by omega), ao 2 (by omega) (by omega), ao 22 (by omega) (by omega), ao 23 (by omega) (by omega), ao 24 (by omega) (by omega), ao 25 (by omega) (by omega), ao 28 (by omega) (by omega), ao 29 (by omega) (by omega), ao 30 (by omega) (by omega), ao 31 (by omega) (by omega), ao 32 (by omega) (by omega), ao 33 (by omega) (by omega), ao 34 (by omega) (by omega), ao 35 (by omega) (by omega), ao 36 (by omega) (by omega), a20]
      refine ⟨h1, ⟨hg (n - 1), g1, ?_, ?_⟩, ⟨f, n - 1, hg, hf, by omega, ?_, ?_, ?_, fun j hj => hh j (by omega)⟩, h4, h5, ?_⟩
      · have r3 : ∀ c k, c ≠ 20 → (nz_put a 20 2 (nI (n - 1))).1 c k = a.1 c k := fun c k hc => by rw [z_put1, if_neg hc]
        refine zKf_cp g1 g2 (by rw [q2, z_upd, if_pos rfl, r3 _ _ (by omega)]) (fun k hk => ?_) (fun k hk => ?_) (fun k hk => ?_)
        · rw [Nat.mul_zero, Nat.zero_add, q3 k hk, r3 _ _ (by omega)]
        · rw [Nat.mul_zero, Nat.zero_add, q4 k hk, r3 _ _ (by omega)]
        · rw [Nat.mul_zero, Nat.zero_add, q5 k hk, r3 _ _ (by omega)]
      · refine zMf_cp g1 g3 (fun k hk => ?_)
        rw [zcp_in _ (o' := 61 * 0) hk, z_put1, if_neg (by omega), z_put1, if_neg (by omega)]
      · rw [z_upd, if_neg (by omega), e1]
      · rw [z_upd, if_pos rfl]
      · rw [zcp_o _ (show 0 ≠ 3 by omega), md]
      · rw [q7]; exact h6
/-! ===== keep, again ===== -/
theorem mKeepL (x : nz_S) (n : Nat) (hn : n < 2) (K : Int32 → nz_S → Option (Int32 × nz_S)) (F : Nat) (hF : 61 < F) : f_X8_keep_26 (nI n) F 0 x K = K (nI 61) (zcp x 3 0 6 (61 * n) 61) := by
  have := mKeep_26 x n hn K 61 0 F (by omega) hF
  rw [zcp_0, nI_0] at this
  exact this
theorem mAgainL (x : nz_S) (n : Nat) (hn : n < 2) (K : Int32 → nz_S → Option (Int32 × nz_S)) : f_X8_again_31 (nI n) nz_F 0 x K = K (nI 61) (zcp x 6 (61 * n) 3 0 61) := by
  have := mAgain_31 x n hn K 61 0 nz_F (by omega) (by decide)
  rw [zcp_0, nI_0] at this
  exact this
theorem mKeepZ (x : nz_S) (k : Nat) (hk2 : k < 2) (G : zG) (hV : zV G) (hm1 : zM (zcp x 3 0 6 (61 * k) 61) 3 G) (F : Nat) (hF : 61 < F) : (f_X8_keep_26 (nI k) F 0 x fun u15 x14 => nz_bnd (f_X8_arcs 3 x14) fun r16 x17 => some (r16, x17)) = some (nI (nArcs G G.1), zcp x 3 0 6 (61 * k) 61) := by
  rw [mKeepL x k hk2 _ F hF, mArcs hm1 hV, z_bnd]
theorem mKeepAll (b : nz_S) (k : Nat) (hk2 : k < 2) (G : zG) (hV : zV G) (hm1 : zM (zcp (nz_put (nz_put b 0 0 0) 7 k 1) 3 0 6 (61 * k) 61) 3 G) : f_X8_keep (nI k) b = some (nI (nArcs G G.1), zcp (nz_put (nz_put b 0 0 0) 7 k 1) 3 0 6 (61 * k) 61) := by
  have hb : 0 ≤ (nI k).toInt ∧ (nI k).toInt ≤ 1 := by rw [nI_toInt (by omega)]; omega
  have k3 : ¬ (1 : Int32) = 0 := by decide
  simp only [f_X8_keep, in_eqI, l0, l1, hb, and_self, if_true, z_bnd, k3, if_false, z_in hk2 (by omega), z_chk, z_N (show k < 2147483648 by omega)]
  exact mKeepZ _ k hk2 G hV hm1 _ (by decide)
theorem sim_keep (v : Int32) (a b : nz_S) (h : zR a b) : nz_both zR (f_X7_keep v a) (f_X8_keep v b) := by
  have h0 := h
  obtain ⟨h1, ⟨G, hV, hk, hm⟩, h3, h4, h5, h6⟩ := h
  have hk : zK a 3 G := hk
  have k3 : ¬ (1 : Int32) = 0 := by decide
  by_cases hb : 0 ≤ v.toInt ∧ v.toInt ≤ 1
  · obtain ⟨k, hk2, rfl⟩ := ib_ex (v := v) (n := 2) ⟨hb.1, by omega⟩
    obtain ⟨a1, q1, q2, q3, q4, q5, q6, q7⟩ := kStore 27 2 3 k a hk2 (by omega) (by omega)
    have hk1 : zK (nz_put a1 32 k 1) 3 G := by
      have : ∀ c, c < 7 → (nz_put a1 32 k 1).1 c = a.1 c := fun c hc => by rw [z_put1, if_neg (by omega), q6 c (by omega)]
      unfold zK
      rw [this 3 (by omega), this (3 + 1) (by omega), this (3 + 2) (by omega), this (3 + 3) (by omega)]
      exact hk
    have mc : ∀ c, c ≠ 0 → c ≠ 6 → c ≠ 7 → (zcp (nz_put (nz_put b 0 0 0) 7 k 1) 3 0 6 (61 * k) 61).1 c = b.1 c := fun c hc hc6 hc7 => by
      rw [zcp_o _ hc6, z_put1, if_neg hc7, z_put1, if_neg hc]
    have m0 : ∀ i, i ≠ 0 → (zcp (nz_put (nz_put b 0 0 0) 7 k 1) 3 0 6 (61 * k) 61).1 0 i = b.1 0 i := fun i hi => by
      rw [zcp_o _ (show 0 ≠ 6 by omega), z_put1, if_neg (by omega), z_put1, if_pos rfl, z_upd, if_neg hi]
    have hm1 : zM (zcp (nz_put (nz_put b 0 0 0) 7 k 1) 3 0 6 (61 * k) 61) 3 G := by
      unfold zM
      rw [mc 3 (by omega) (by omega) (by omega)]
      exact hm
    refine ⟨nI (nArcs G G.1), nz_put a1 32 k 1, zcp (nz_put (nz_put b 0 0 0) 7 k 1) 3 0 6 (61 * k) 61, ?_, ?_, ?_⟩
    · have c1 : ¬ nI k < 0 := nI_pos (by omega)
      have c2 : nI k < 2 := (z_lt (b := 2) (by omega) (by omega)).mpr hk2
      simp only [f_X7_keep, c1, c2, if_true, if_false, f_X4_store, q1, z_bnd, z_in hk2 (by omega), z_chk, z_N (show k < 2147483648 by omega), kArcs hk1 hV]
    · exact mKeepAll b k hk2 G hV hm1
    · have ao : ∀ c, c < 27 ∨ 32 < c → (nz_put a1 32 k 1).1 c = a.1 c := fun c hc => by rw [z_put1, if_neg (by omega), q6 c (by omega)]
      unfold zR
      rw [mc 1 (by omega) (by omega) (by omega), mc 3 (by omega) (by omega) (by omega), mc 5 (by omega) (by omega) (by omega), mc 8 (by omega) (by omega) (by omega), mc 9 (by omega) (by omega) (by omega), mc 10 (by omega) (by omega) (by omega), m0 2 (by omega), m0 8 (by omega), m0 11 (by omega), ao 1 (by omega), ao 2 (by omega), ao 3 (by omega), ao 4 (by omega), ao 5 (by omega), ao 6 (by omega), ao 20 (by omega), ao 22 (by omega), ao 23 (by omega), ao 24 (by omega), ao 25 (by omega), ao 33 (by omega), ao 34 (by omega), ao 35 (by omega), ao 36 (by omega)]
      refine ⟨h1, ⟨G, hV, hk, hm⟩, h3, fun j hj => ?_, h5, by rw [z_put2, q7]; exact h6⟩
      have s28 : (nz_put a1 32 k 1).1 28 = a1.1 28 := by rw [z_put1, if_neg (by omega)]
      have s29 : (nz_put a1 32 k 1).1 29 = a1.1 29 := by rw [z_put1, if_neg (by omega)]
      have s30 : (nz_put a1 32 k 1).1 30 = a1.1 30 := by rw [z_put1, if_neg (by omega)]
      have s31 : (nz_put a1 32 k 1).1 31 = a1.1 31 := by rw [z_put1, if_neg (by omega)]
      have s32 : (nz_put a1 32 k 1).1 32 j = if j = k then 1 else a.1 32 j := by rw [z_put1, if_pos rfl, z_upd, q6 32 (by omega)]
      have t7 : (zcp (nz_put (nz_put b 0 0 0) 7 k 1) 3 0 6 (61 * k) 61).1 7 j = if j = k then 1 else b.1 7 j := by
        rw [zcp_o _ (show 7 ≠ 6 by omega)]
        simp only [z_put1, z_upd, ↓reduceIte, Nat.reduceEqDiff, reduceCtorEq]
      rw [s28, s29, s30, s31, s32, t7]
      by_cases hjk : j = k
      · subst hjk
        rw [if_pos rfl, if_pos rfl]
        refine Or.inr ⟨rfl, rfl, G, hV, ?_, ?_⟩
        · refine zKf_cp hV hk (by rw [q2 j, if_pos rfl]) (fun i hi => ?_) (fun i hi => ?_) (fun i hi => ?_)
          · rw [q3, if_pos (by omega), show 12 * j + i - 12 * j = 12 * 0 + i by omega]
          · rw [q4, if_pos (by omega), show 12 * j + i - 12 * j = 12 * 0 + i by omega]
          · rw [q5, if_pos (by omega), show 36 * j + i - 36 * j = 36 * 0 + i by omega]
        · refine zMf_cp hV hm (fun i hi => ?_)
          rw [zcp_in _ hi, z_put1, if_neg (by omega), z_put1, if_neg (by omega)]
      · rw [if_neg hjk, if_neg hjk]
        rcases h4 j hj with q | ⟨r1, r2, G2, r3, r4, r5⟩
        · exact Or.inl q
        · refine Or.inr ⟨r1, r2, G2, r3, ?_, ?_⟩
          · refine zKf_cp r3 r4 (by rw [q2 j, if_neg hjk]) (fun i hi => ?_) (fun i hi => ?_) (fun i hi => ?_)
            · rw [q3, if_neg (by omega)]
            · rw [q4, if_neg (by omega)]
            · rw [q5, if_neg (by omega)]
          · refine zMf_cp r3 r5 (fun i hi => ?_)
            rw [zcp_out _ (by omega), z_put1, if_neg (by omega), z_put1, if_neg (by omega)]
  · refine ⟨-1, a, nz_put b 0 0 0, ?_, ?_, h0.eq (eK.rf a) (eM_put0 _ _ _ (by omega))⟩
    · by_cases c1 : v < 0
      · simp only [f_X7_keep, c1, if_true]
      · have c2 : ¬ v < 2 := by rw [fa_lt, show (2 : Int32).toInt = 2 by decide]; rw [fa_lt, i0] at c1; omega
        simp only [f_X7_keep, c1, c2, if_false]
    · simp only [f_X8_keep, in_eqI, l0, l1, hb, if_false, z_bnd, if_true]
theorem sim_again (v : Int32) (a b : nz_S) (h : zR a b) : nz_both zR (f_X7_again v a) (f_X8_again v b) := by
  have h0 := h
  obtain ⟨h1, h2, h3, h4, h5, h6⟩ := h
  have k3 : ¬ (1 : Int32) = 0 := by decide
  by_cases hb : 0 ≤ v.toInt ∧ v.toInt ≤ 1
  · obtain ⟨k, hk2, rfl⟩ := ib_ex (v := v) (n := 2) ⟨hb.1, by omega⟩
    have c1 : ¬ nI k < 0 := nI_pos (by omega)
    have c2 : nI k < 2 := (z_lt (b := 2) (by omega) (by omega)).mpr hk2
    have b7 : (nz_put b 0 0 0).1 7 k = b.1 7 k := by rw [z_put1, if_neg (by omega)]
    rcases h4 k hk2 with ⟨r1, r2⟩ | ⟨r1, r2, G, hV, r4, r5⟩
    · refine ⟨-3, a, nz_put b 0 0 0, ?_, ?_, h0.eq (eK.rf a) (eM_put0 _ _ _ (by omega))⟩
      · simp only [f_X7_again, c1, c2, if_true, if_false, z_in hk2 (by omega), z_chk, z_N (show k < 2147483648 by omega), r1]
      · simp only [f_X8_again, in_eqI, l0, l1, hb, and_self, if_true, z_bnd, k3, if_false, z_in hk2 (by omega), z_chk, z_N (show k < 2147483648 by omega), b7, r2]
    · obtain ⟨a1, q1, q2, q3, q4, q5, q6, q7⟩ := kBring 27 2 3 k a hk2 (by omega) (by omega)
      have hkf : zKf (a1.1 3 3) (a1.1 4) (a1.1 5) (a1.1 6) 0 G := by
        refine zKf_cp hV r4 (by rw [q2, z_upd, if_pos rfl]) (fun i hi => ?_) (fun i hi => ?_) (fun i hi => ?_)
        · rw [Nat.mul_zero, Nat.zero_add, q3 i hi]
        · rw [Nat.mul_zero, Nat.zero_add, q4 i hi]
        · rw [Nat.mul_zero, Nat.zero_add, q5 i hi]
      have hk1 : zK (nz_put (nz_put a1 20 1 0) 20 2 0) 3 G := hkf
      have mk := mAgain_31 (nz_put b 0 0 0) k hk2 (fun u15 x14 => let x16 : nz_S := nz_put x14 0 8 0; nz_bnd (f_X8_arcs 3 x16) fun r17 x18 => some (r17, x18)) 61 0 nz_F (by omega) (by decide)
      rw [zcp_0, nI_0] at mk
      have mc : ∀ c, c ≠ 0 → c ≠ 3 → (nz_put (zcp (nz_put b 0 0 0) 6 (61 * k) 3 0 61) 0 8 0).1 c = b.1 c := fun c hc hc3 => by
        rw [z_put1, if_neg hc, zcp_o _ hc3, z_put1, if_neg hc]
      have m0 : ∀ i, i ≠ 0 → i ≠ 8 → (nz_put (zcp (nz_put b 0 0 0) 6 (61 * k) 3 0 61) 0 8 0).1 0 i = b.1 0 i := fun i hi hi8 => by
        rw [z_put1, if_pos rfl, z_upd, if_neg hi8, zcp_o _ (show 0 ≠ 3 by omega), z_put1, if_pos rfl, z_upd, if_neg hi]
      have hmf : zMf ((nz_put (zcp (nz_put b 0 0 0) 6 (61 * k) 3 0 61) 0 8 0).1 3) 0 G := by
        refine zMf_cp hV r5 (fun i hi => ?_)
        rw [z_put1, if_neg (by omega), zcp_in _ (o' := 61 * 0) hi, z_put1, if_neg (by omega)]
      refine ⟨nI (nArcs G G.1), nz_put (nz_put a1 20 1 0) 20 2 0, nz_put (zcp (nz_put b 0 0 0) 6 (61 * k) 3 0 61) 0 8 0, ?_, ?_, ?_⟩
      · simp only [f_X7_again, c1, c2, if_true, if_false, z_in hk2 (by omega), z_chk, z_N (show k < 2147483648 by omega), r1, k3, f_X4_bringBack, q1, z_bnd, f_X1_forget, kArcs hk1 hV]
      · simp only [f_X8_again, in_eqI, l0, l1, hb, and_self, if_true, z_bnd, k3, if_false, z_in hk2 (by omega), z_chk, z_N (show k < 2147483648 by omega), b7, r2]
        refine mk.trans ?_
        simp only [mArcs (show zM _ 3 G from hmf) hV, z_bnd]
      · have ao : ∀ c, (c < 3 ∨ 6 < c) → c ≠ 20 → (nz_put (nz_put a1 20 1 0) 20 2 0).1 c = a.1 c := fun c hc hc2 => by
          rw [z_put1, if_neg hc2, z_put1, if_neg hc2, q6 c (by omega)]
        have aq : ∀ c, c ≠ 20 → (nz_put (nz_put a1 20 1 0) 20 2 0).1 c = a1.1 c := fun c hc2 => by
          rw [z_put1, if_neg hc2, z_put1, if_neg hc2]
        unfold zR
        rw [mc 1 (by omega) (by omega), mc 5 (by omega) (by omega), mc 6 (by omega) (by omega), mc 7 (by omega) (by omega), mc 8 (by omega) (by omega), mc 9 (by omega) (by omega), mc 10 (by omega) (by omega), m0 2 (by omega) (by omega), m0 11 (by omega) (by omega), ao 1 (by omega) (by omega), ao 2 (by omega) (by omega), ao 22 (by omega) (by omega), ao 23 (by omega) (by omega), ao 24 (by omega) (by omega), ao 25 (by omega) (by omega), ao 28 (by omega) (by omega), ao 29 (by omega) (by omega), ao 30 (by omega) (by omega), ao 31 (by omega) (by omega), ao 32 (by omega) (by omega), ao 33 (by omega) (by omega), ao 34 (by omega) (by omega), ao 35 (by omega) (by omega), ao 36 (by omega) (by omega), aq 3 (by omega), aq 4 (by omega), aq 5 (by omega), aq 6 (by omega)]
        refine ⟨h1, ⟨G, hV, hkf, hmf⟩, ⟨0, 0, fun _ => G, by omega, by omega, ?_, ?_, ?_, fun j hj => by omega⟩, h4, h5, ?_⟩
        · simp only [z_put1, z_upd, ↓reduceIte, Nat.reduceEqDiff]; rfl
        · simp only [z_put1, z_upd, ↓reduceIte]; rfl
        · simp only [z_put1, z_upd, ↓reduceIte]; rfl
        · show a1.2 = _
          rw [q7]; exact h6
  · refine ⟨-1, a, nz_put b 0 0 0, ?_, ?_, h0.eq (eK.rf a) (eM_put0 _ _ _ (by omega))⟩
    · by_cases c1 : v < 0
      · simp only [f_X7_again, c1, if_true]
      · have c2 : ¬ v < 2 := by rw [fa_lt, show (2 : Int32).toInt = 2 by decide]; rw [fa_lt, i0] at c1; omega
        simp only [f_X7_again, c1, c2, if_false]
    · simp only [f_X8_again, in_eqI, l0, l1, hb, if_false, z_bnd, if_true]
