/-! ===== about, block, sets ===== -/
theorem surv {a b : nz_S} (h : zR a b) : ∃ (G : zG) (a2 b2 : nz_S), zV G ∧ zK a 3 G ∧ zM b 3 G ∧ zM (nz_put b 0 0 0) 3 G ∧ eM b (nz_put b 0 0 0) ∧ f_X5_read 3 a = some ((), a2) ∧ kS a2 G (dfs G) (wrk G (dfs G)) ∧ eS a a2 ∧ f_X8_find 3 (nz_put b 0 0 0) = some ((), b2) ∧ mW b2 (dfs G) ∧ mV b2 (wrk G (dfs G)) ∧ fN (nz_put b 0 0 0) b2 ∧ zM b2 3 G := by
  obtain ⟨-, ⟨G, hV, hk, hm⟩, -⟩ := id h
  have hk : zK a 3 G := hk
  have hm : zM b 3 G := hm
  have em : eM b (nz_put b 0 0 0) := eM_put0 _ _ _ (by omega)
  have hm0 : zM (nz_put b 0 0 0) 3 G := zM_eq hm (em.1 3 (by omega))
  obtain ⟨a2, r1, r2, r3⟩ := kRead (g := 3) (by omega) hV hk
  obtain ⟨b2, s1, s2, s3, s4⟩ := mFind (q := 3) (Or.inl rfl) hV hm0
  exact ⟨G, a2, b2, hV, hk, hm, hm0, em, r1, r2, r3, s1, s2, s3, s4, s4.M (Or.inl rfl) hm0⟩
theorem zR.sz {a b : nz_S} (h : zR a b) : a.1 20 2 = b.1 0 8 ∧ a.1 33 3 = b.1 0 11 ∧ a.1 1 1 = b.1 0 2 := by
  obtain ⟨⟨n, -, e1, e2, -⟩, -, ⟨f, m, hg, -, -, -, e3, e4, -⟩, -, ⟨k, -, e5, e6, -⟩, -⟩ := h
  exact ⟨by rw [e3, e4], by rw [e5, e6], by rw [e1, e2]⟩
theorem sim_about (v : Int32) (a b : nz_S) (h : zR a b) : nz_both zR (f_X7_about v a) (f_X8_about v b) := by
  obtain ⟨G, a2, b2, hV, hk, hm, hm0, em, r1, r2, r3, s1, s2, s3, s4, hm2⟩ := surv h
  have hF := dfs_F hV
  have hU := wrk_U hF
  have hH : ∀ b k, (wrk G (dfs G)).1 b = some k → k < 12 := fun b k e => hU.lt hV hF b k e
  have hty := hU.2.2.1
  have fe : eM b b2 := em.tr s4.eM
  have e0 : ((0 : Int32)).toNatClampNeg = 0 := rfl
  obtain ⟨z1, z2, z3⟩ := h.sz
  by_cases h0 : v = 0
  · subst h0
    refine ⟨nI G.1, a, b2, ?_, ?_, h.eq (eK.rf a) fe⟩
    · rw [f_X7_about, if_pos rfl, hk.n]
    · unfold f_X8_about
      simp only [s1, z_bnd]
      rw [if_pos (by decide), show nz_in 0 61 = true from rfl, z_chk, e0, hm2.n]
  by_cases h1 : v = 1
  · subst h1
    refine ⟨nI (nArcs G G.1), a, b2, ?_, ?_, h.eq (eK.rf a) fe⟩
    · rw [f_X7_about, if_neg (by decide), if_pos rfl, kArcs hk hV, z_bnd]
    · unfold f_X8_about
      simp only [s1, z_bnd]
      rw [if_neg (by decide), if_pos (by decide), mArcs hm2 hV, z_bnd]
  by_cases h2 : v = 2
  · subst h2
    refine ⟨nI (dfs G).1, a2, b2, ?_, ?_, h.eq (r3.eK) fe⟩
    · rw [f_X7_about, if_neg (by decide), if_neg (by decide), if_pos rfl, if_neg (by decide), if_neg (by decide), f_X7_aboutLoops, r1, z_bnd, if_pos rfl, r2.1.1, z_bnd]
    · unfold f_X8_about
      simp only [s1, z_bnd]
      rw [if_neg (by decide), if_neg (by decide), if_pos (by decide), s2.1]
  by_cases h3 : v = 3
  · subst h3
    refine ⟨nI (cts (wrk G (dfs G)) 1), a2, b2, ?_, ?_, h.eq (r3.eK) fe⟩
    · rw [f_X7_about, if_neg (by decide), if_neg (by decide), if_neg (by decide), if_pos rfl, if_neg (by decide), if_neg (by decide), f_X7_aboutLoops, r1, z_bnd, if_neg (by decide), if_pos rfl, kCt r2.2.2.2.2.2.2.1 hty, z_bnd, z_bnd]
    · unfold f_X8_about
      simp only [s1, z_bnd]
      rw [if_neg (by decide), if_neg (by decide), if_neg (by decide), if_pos (by decide), show (1 : Int32) = nI 1 from rfl, mCt hV hF hU (by omega) s2 s3, z_bnd]
  by_cases h4 : v = 4
  · subst h4
    refine ⟨nI (cts (wrk G (dfs G)) 3), a2, b2, ?_, ?_, h.eq (r3.eK) fe⟩
    · rw [f_X7_about, if_neg (by decide), if_neg (by decide), if_neg (by decide), if_neg (by decide), if_pos rfl, if_neg (by decide), if_neg (by decide), f_X7_aboutLoops, r1, z_bnd, if_neg (by decide), if_neg (by decide), if_pos rfl, kCm r2.2.2.2.2.2.2.1 hty, z_bnd, z_bnd]
    · unfold f_X8_about
      simp only [s1, z_bnd]
      rw [if_neg (by decide), if_neg (by decide), if_neg (by decide), if_neg (by decide), if_pos (by decide), show (3 : Int32) = nI 3 from rfl, mCt hV hF hU (by omega) s2 s3, z_bnd]
  by_cases h5 : v = 5
  · subst h5
    refine ⟨nI (mxN (dpt (wrk G (dfs G))) 12), a2, b2, ?_, ?_, h.eq (r3.eK) fe⟩
    · rw [f_X7_about, if_neg (by decide), if_neg (by decide), if_neg (by decide), if_neg (by decide), if_neg (by decide), if_pos rfl, if_neg (by decide), if_neg (by decide), f_X7_aboutLoops, r1, z_bnd, if_neg (by decide), if_neg (by decide), if_neg (by decide), if_pos rfl, kDeep hH hty r2.2.2.2.2.2, z_bnd, z_bnd]
    · unfold f_X8_about
      simp only [s1, z_bnd]
      rw [if_neg (by decide), if_neg (by decide), if_neg (by decide), if_neg (by decide), if_neg (by decide), if_pos (by decide), mDeep hV hF hU s2 s3, z_bnd]
  by_cases h6 : v = 6
  · subst h6
    refine ⟨if tme G (dfs G) then 1 else 0, a2, b2, ?_, ?_, h.eq (r3.eK) fe⟩
    · rw [f_X7_about, if_neg (by decide), if_neg (by decide), if_neg (by decide), if_neg (by decide), if_neg (by decide), if_neg (by decide), if_pos rfl, if_neg (by decide), if_neg (by decide), f_X7_aboutLoops, r1, z_bnd, if_neg (by decide), if_neg (by decide), if_neg (by decide), if_neg (by decide), if_pos rfl, kTam hV hF r2, z_bnd]
      cases tme G (dfs G)
      · simp only [Bool.false_eq_true, if_false, if_true, z_bnd]
      · simp only [if_true, one0, if_false, z_bnd]
    · unfold f_X8_about
      simp only [s1, z_bnd]
      rw [if_neg (by decide), if_neg (by decide), if_neg (by decide), if_neg (by decide), if_neg (by decide), if_neg (by decide), if_pos (by decide), mTam hV hF s2 hm2, z_bnd]
      cases tme G (dfs G)
      · simp only [Bool.false_eq_true, if_false, if_true]
      · simp only [if_true, one0, if_false]
  by_cases h7 : v = 7
  · subst h7
    refine ⟨nI (sumN (fun b => bcN G (dfs G) b) G.1), a2, b2, ?_, ?_, h.eq (r3.eK) fe⟩
    · rw [f_X7_about, if_neg (by decide), if_neg (by decide), if_neg (by decide), if_neg (by decide), if_neg (by decide), if_neg (by decide), if_neg (by decide), if_pos rfl, if_neg (by decide), if_neg (by decide), f_X7_aboutLoops, r1, z_bnd, if_neg (by decide), if_neg (by decide), if_neg (by decide), if_neg (by decide), if_neg (by decide), r2.2.2.1, z_bnd]
    · unfold f_X8_about
      simp only [s1, z_bnd]
      rw [if_neg (by decide), if_neg (by decide), if_neg (by decide), if_neg (by decide), if_neg (by decide), if_neg (by decide), if_neg (by decide), if_pos (by decide), mBArc hV hF s2 hm2, z_bnd]
  by_cases h8 : v = 8
  · subst h8
    refine ⟨b.1 0 8, a, b2, ?_, ?_, h.eq (eK.rf a) fe⟩
    · rw [f_X7_about, if_neg (by decide), if_neg (by decide), if_neg (by decide), if_neg (by decide), if_neg (by decide), if_neg (by decide), if_neg (by decide), if_neg (by decide), if_pos rfl, z1]
    · unfold f_X8_about
      simp only [s1, z_bnd]
      rw [if_neg (by decide), if_neg (by decide), if_neg (by decide), if_neg (by decide), if_neg (by decide), if_neg (by decide), if_neg (by decide), if_neg (by decide), if_pos (by decide), fe.2.2.1]
  by_cases h9 : v = 9
  · subst h9
    refine ⟨b.1 0 11, a, b2, ?_, ?_, h.eq (eK.rf a) fe⟩
    · rw [f_X7_about, if_neg (by decide), if_neg (by decide), if_neg (by decide), if_neg (by decide), if_neg (by decide), if_neg (by decide), if_neg (by decide), if_neg (by decide), if_neg (by decide), if_pos rfl, z2]
    · unfold f_X8_about
      simp only [s1, z_bnd]
      rw [if_neg (by decide), if_neg (by decide), if_neg (by decide), if_neg (by decide), if_neg (by decide), if_neg (by decide), if_neg (by decide), if_neg (by decide), if_neg (by decide), if_pos (by decide), fe.2.2.2.1]
  by_cases h10 : v = 10
  · subst h10
    refine ⟨b.1 0 2, a, b2, ?_, ?_, h.eq (eK.rf a) fe⟩
    · rw [f_X7_about, if_neg (by decide), if_neg (by decide), if_neg (by decide), if_neg (by decide), if_neg (by decide), if_neg (by decide), if_neg (by decide), if_neg (by decide), if_neg (by decide), if_neg (by decide), if_pos rfl, z3]
    · unfold f_X8_about
      simp only [s1, z_bnd]
      rw [if_neg (by decide), if_neg (by decide), if_neg (by decide), if_neg (by decide), if_neg (by decide), if_neg (by decide), if_neg (by decide), if_neg (by decide), if_neg (by decide), if_neg (by decide), if_pos (by decide), fe.2.1]
  refine ⟨-2, a, b2, ?_, ?_, h.eq (eK.rf a) fe⟩
  · rw [f_X7_about, if_neg h0, if_neg h1, if_neg h2, if_neg h3, if_neg h4, if_neg h5, if_neg h6, if_neg h7, if_neg h8, if_neg h9, if_neg h10]
    by_cases c1 : v < 2
    · rw [if_pos c1]
    · rw [if_neg c1]
      by_cases c2 : 7 < v
      · rw [if_pos c2]
      · exfalso
        rw [fa_lt, show (2 : Int32).toInt = 2 by decide] at c1
        rw [fa_lt, show (7 : Int32).toInt = 7 by decide] at c2
        obtain ⟨k, hk8, rfl⟩ := ib_ex (v := v) (n := 8) ⟨by omega, by omega⟩
        rcases (show k = 0 ∨ k = 1 ∨ k = 2 ∨ k = 3 ∨ k = 4 ∨ k = 5 ∨ k = 6 ∨ k = 7 by omega) with rfl | rfl | rfl | rfl | rfl | rfl | rfl | rfl
        · exact h0 rfl
        · exact h1 rfl
        · exact h2 rfl
        · exact h3 rfl
        · exact h4 rfl
        · exact h5 rfl
        · exact h6 rfl
        · exact h7 rfl
  · unfold f_X8_about
    simp only [s1, z_bnd]
    rw [if_neg h0, if_neg h1, if_neg h2, if_neg h3, if_neg h4, if_neg h5, if_neg h6, if_neg h7, if_neg h8, if_neg h9, if_neg h10]
theorem sim_block (v w : Int32) (a b : nz_S) (h : zR a b) : nz_both zR (f_X7_block v w a) (f_X8_block v w b) := by
  obtain ⟨G, a2, b2, hV, hk, hm, hm0, em, r1, r2, r3, s1, s2, s3, s4, hm2⟩ := surv h
  have hF := dfs_F hV
  have hU := wrk_U hF
  have h12 := hV.1
  have hH : ∀ b k, (wrk G (dfs G)).1 b = some k → k < 12 := fun b k e => hU.lt hV hF b k e
  have hty := hU.2.2.1
  have fe : eM b b2 := em.tr s4.eM
  have hk2 : zK a2 3 G := r3.K (by omega) hk
  by_cases hb : (0 ≤ v.toInt ∧ v.toInt < (G.1 : Int))
  · have hb0 := hb
    obtain ⟨c, hc, rfl⟩ := ib_ex hb
    have hc12 : c < 12 := by omega
    by_cases hw : 0 ≤ w.toInt ∧ w.toInt < 6
    · obtain ⟨k, hk6, rfl⟩ := ib_ex (v := w) (n := 6) hw
      have c1 : ¬ nI k < 0 := nI_pos (by omega)
      have c2 : nI k ≤ 5 := (z_le (b := 5) (by omega) (by omega)).mpr (by omega)
      rcases (show k = 0 ∨ k = 1 ∨ k = 2 ∨ k = 3 ∨ k = 4 ∨ k = 5 by omega) with rfl | rfl | rfl | rfl | rfl | rfl
      · refine ⟨G.2.1 c, a2, b2, ?_, ?_, h.eq r3.eK fe⟩
        · unfold f_X7_block
          simp only [kHB hk hV, if_pos hb0, z_bnd, one0, if_false, c1, c2, if_true, r1]
          rw [if_pos (show nI 0 = 0 from rfl), z_in hc12 (by omega), z_chk, z_N (show c < 2147483648 by omega)]
          exact congrArg (fun z => some (z, a2)) (hk2.a hc)
        · unfold f_X8_block
          simp only [mNB hm0 hV, if_pos hb0, z_bnd, if_true, s1]
          rw [if_pos (show nI 0 = 0 from rfl), show (1 : Int32) + nI c = nI (1 + c) by rw [show (1 : Int32) = nI 1 from rfl, nI_add], z_in (show 1 + c < 61 by omega) (by omega), z_chk, z_N (show 1 + c < 2147483648 by omega), hm2.a hc]
      · refine ⟨nI (G.2.2 c).length, a2, b2, ?_, ?_, h.eq r3.eK fe⟩
        · unfold f_X7_block
          simp only [kHB hk hV, if_pos hb0, z_bnd, one0, if_false, c1, c2, if_true, r1]
          rw [if_neg (by decide), if_pos (show nI 1 = 1 from rfl), z_in hc12 (by omega), z_chk, z_N (show c < 2147483648 by omega)]
          exact congrArg (fun z => some (z, a2)) (hk2.c hc)
        · unfold f_X8_block
          simp only [mNB hm0 hV, if_pos hb0, z_bnd, if_true, s1]
          rw [if_neg (by decide), if_pos (show nI 1 = 1 from rfl), show (13 : Int32) + nI c = nI (13 + c) by rw [show (13 : Int32) = nI 13 from rfl, nI_add], z_in (show 13 + c < 61 by omega) (by omega), z_chk, z_N (show 13 + c < 2147483648 by omega), hm2.c hc]
      · refine ⟨oi ((dfs G).2.1 c), a2, b2, ?_, ?_, h.eq r3.eK fe⟩
        · unfold f_X7_block
          simp only [kHB hk hV, if_pos hb0, z_bnd, one0, if_false, c1, c2, if_true, r1]
          rw [if_neg (by decide), if_neg (by decide), if_pos (show nI 2 = 2 from rfl), z_in hc12 (by omega), z_chk, z_N (show c < 2147483648 by omega)]
          rw [r2.1.2.1 c hc12]
        · unfold f_X8_block
          simp only [mNB hm0 hV, if_pos hb0, z_bnd, if_true, s1]
          rw [if_neg (by decide), if_neg (by decide), if_pos (show nI 2 = 2 from rfl), z_in hc12 (by omega), z_chk, z_N (show c < 2147483648 by omega), s2.2.1 c hc12]
      · refine ⟨oi ((wrk G (dfs G)).1 c), a2, b2, ?_, ?_, h.eq r3.eK fe⟩
        · unfold f_X7_block
          simp only [kHB hk hV, if_pos hb0, z_bnd, one0, if_false, c1, c2, if_true, r1]
          rw [if_neg (by decide), if_neg (by decide), if_neg (by decide), if_pos (show nI 3 = 3 from rfl), z_in hc12 (by omega), z_chk, z_N (show c < 2147483648 by omega)]
          rw [r2.2.2.2.2.2.1 c hc12]
        · unfold f_X8_block
          simp only [mNB hm0 hV, if_pos hb0, z_bnd, if_true, s1]
          rw [if_neg (by decide), if_neg (by decide), if_neg (by decide), if_pos (show nI 3 = 3 from rfl), z_in hc12 (by omega), z_chk, z_N (show c < 2147483648 by omega), s3.1 c hc12]
      · refine ⟨nI ((wrk G (dfs G)).2.1 c), a2, b2, ?_, ?_, h.eq r3.eK fe⟩
        · unfold f_X7_block
          simp only [kHB hk hV, if_pos hb0, z_bnd, one0, if_false, c1, c2, if_true, r1]
          rw [if_neg (by decide), if_neg (by decide), if_neg (by decide), if_neg (by decide), if_pos (show nI 4 = 4 from rfl), z_in hc12 (by omega), z_chk, z_N (show c < 2147483648 by omega)]
          rw [r2.2.2.2.2.2.2.1 c hc12]
        · unfold f_X8_block
          simp only [mNB hm0 hV, if_pos hb0, z_bnd, if_true, s1]
          rw [if_neg (by decide), if_neg (by decide), if_neg (by decide), if_neg (by decide), if_pos (show nI 4 = 4 from rfl), z_in hc12 (by omega), z_chk, z_N (show c < 2147483648 by omega), s3.2.1 c hc12]
      · refine ⟨nI (dpt (wrk G (dfs G)) c), a2, b2, ?_, ?_, h.eq r3.eK fe⟩
        · unfold f_X7_block
          simp only [kHB hk hV, if_pos hb0, z_bnd, one0, if_false, c1, c2, if_true, r1]
          rw [if_neg (by decide), if_neg (by decide), if_neg (by decide), if_neg (by decide), if_neg (by decide), kDep hH hty r2.2.2.2.2.2 hc12, z_bnd]
        · unfold f_X8_block
          simp only [mNB hm0 hV, if_pos hb0, z_bnd, if_true, s1]
          rw [if_neg (by decide), if_neg (by decide), if_neg (by decide), if_neg (by decide), if_neg (by decide), if_pos (show nI 5 = 5 from rfl), mDep hV hF hU s2 s3 hc12, z_bnd]
    · refine ⟨-2, a, b2, ?_, ?_, h.eq (eK.rf a) fe⟩
      · unfold f_X7_block
        simp only [kHB hk hV, if_pos hb0, z_bnd, one0, if_false]
        by_cases c1 : w < 0
        · rw [if_pos c1]
        · have c2 : ¬ w ≤ 5 := by rw [fa_le, show (5 : Int32).toInt = 5 by decide]; rw [fa_lt, i0] at c1; omega
          rw [if_neg c1, if_neg c2]
      · have q : ∀ (k : Nat), k < 6 → ¬ w = nI k := fun k hk6 e => hw (by rw [e, nI_toInt (by omega)]; omega)
        unfold f_X8_block
        simp only [mNB hm0 hV, if_pos hb0, z_bnd, if_true, s1]
        rw [if_neg (show ¬ w = 0 from q 0 (by omega)), if_neg (show ¬ w = 1 from q 1 (by omega)), if_neg (show ¬ w = 2 from q 2 (by omega)), if_neg (show ¬ w = 3 from q 3 (by omega)), if_neg (show ¬ w = 4 from q 4 (by omega)), if_neg (show ¬ w = 5 from q 5 (by omega))]
  · refine ⟨-1, a, nz_put b 0 0 0, ?_, ?_, h.eq (eK.rf a) em⟩
    · unfold f_X7_block
      simp only [kHB hk hV, if_neg hb, z_bnd, if_true]
    · unfold f_X8_block
      simp only [mNB hm0 hV, if_neg hb, z_bnd, one0, if_false]
theorem l3 : (3 : Int64).toInt = 3 := by decide
theorem l2 : (2 : Int64).toInt = 2 := by decide
theorem sim_sets (v w : Int32) (a b : nz_S) (h : zR a b) : nz_both zR (f_X7_sets v w a) (f_X8_sets v w b) := by
  obtain ⟨G, a2, b2, hV, hk, hm, hm0, em, r1, r2, r3, s1, s2, s3, s4, hm2⟩ := surv h
  have hF := dfs_F hV
  have hU := wrk_U hF
  have h12 := hV.1
  have fe : eM b b2 := em.tr s4.eM
  by_cases hb : (0 ≤ v.toInt ∧ v.toInt < (G.1 : Int))
  · have hb0 := hb
    obtain ⟨c, hc, rfl⟩ := ib_ex hb
    have hc12 : c < 12 := by omega
    by_cases hw : 0 ≤ w.toInt ∧ w.toInt ≤ 3
    · have hw0 := hw
      obtain ⟨k, hk6, rfl⟩ := ib_ex (v := w) (n := 4) ⟨hw.1, by omega⟩
      have c1 : ¬ nI k < 0 := nI_pos (by omega)
      have c2 : nI k ≤ 3 := (z_le (b := 3) (by omega) (by omega)).mpr (by omega)
      have hO := kHO r2.1 hc12 (fun k hk => by have := hF.k hV hk; omega)
      cases ho : (dfs G).2.1 c with
      | none =>
        refine ⟨0, a2, b2, ?_, ?_, h.eq r3.eK fe⟩
        · unfold f_X7_sets
          simp only [kHB hk hV, if_pos hb0, z_bnd, one0, if_false, c1, c2, if_true, r1, hO, ho, Option.isNone_none]
        · unfold f_X8_sets
          simp only [mNB hm0 hV, if_pos hb0, z_bnd, if_true, in_eqI, l0, l3, hw0, and_self, one0, if_false, s1, z_in hc12 (by omega), z_chk, z_N (show c < 2147483648 by omega), s2.2.1 c hc12, ho, oi_none]
      | some q =>
        have hq := hF.k hV ho
        have od1 : od (dfs G) c = true := od_ex.mpr ⟨q, ho⟩
        have n9 : ¬ nI q = -9 := z_m9 (by omega)
        rcases (show k = 0 ∨ k = 1 ∨ k = 2 ∨ k = 3 by omega) with rfl | rfl | rfl | rfl
        · refine ⟨bm (abv (dfs G) c), a2, b2, ?_, ?_, h.eq r3.eK fe⟩
          · unfold f_X7_sets
            simp only [kHB hk hV, if_pos hb0, z_bnd, one0, if_false, c1, c2, if_true, r1, hO, ho, Option.isNone_some, Bool.false_eq_true]
            rw [if_pos (show nI 0 = 0 from rfl), z_in hc12 (by omega), z_chk, z_N (show c < 2147483648 by omega), r2.1.2.2.2 c hc12 (hF.ls od1)]
          · unfold f_X8_sets
            simp only [mNB hm0 hV, if_pos hb0, z_bnd, if_true, in_eqI, l0, l3, hw0, and_self, one0, if_false, s1, z_in hc12 (by omega), z_chk, z_N (show c < 2147483648 by omega), s2.2.1 c hc12, ho, oi_some, n9]
            rw [if_pos (show nI 0 = 0 from rfl), mAbs hV hF s2 hc12, z_bnd]
        · refine ⟨bm (nst (wrk G (dfs G)) c), a2, b2, ?_, ?_, h.eq r3.eK fe⟩
          · unfold f_X7_sets
            simp only [kHB hk hV, if_pos hb0, z_bnd, one0, if_false, c1, c2, if_true, r1, hO, ho, Option.isNone_some, Bool.false_eq_true]
            rw [if_neg (by decide), if_pos (show nI 1 = 1 from rfl), kNest hV hF hU r2.1 r2.2.2.2.2.2.1 hc12, z_bnd]
          · unfold f_X8_sets
            simp only [mNB hm0 hV, if_pos hb0, z_bnd, if_true, in_eqI, l0, l3, hw0, and_self, one0, if_false, s1, z_in hc12 (by omega), z_chk, z_N (show c < 2147483648 by omega), s2.2.1 c hc12, ho, oi_some, n9]
            rw [if_neg (by decide), if_pos (show nI 1 = 1 from rfl), mNest hV hF hU s3 hc12, z_bnd]
        · refine ⟨bm (pas G (dfs G) c), a2, b2, ?_, ?_, h.eq r3.eK fe⟩
          · unfold f_X7_sets
            simp only [kHB hk hV, if_pos hb0, z_bnd, one0, if_false, c1, c2, if_true, r1, hO, ho, Option.isNone_some, Bool.false_eq_true]
            rw [if_neg (by decide), if_neg (by decide), if_pos (show nI 2 = 2 from rfl), kPas hV hF r2 hc12, z_bnd]
          · unfold f_X8_sets
            simp only [mNB hm0 hV, if_pos hb0, z_bnd, if_true, in_eqI, l0, l3, hw0, and_self, one0, if_false, s1, z_in hc12 (by omega), z_chk, z_N (show c < 2147483648 by omega), s2.2.1 c hc12, ho, oi_some, n9]
            rw [if_neg (by decide), if_neg (by decide), if_pos (show nI 2 = 2 from rfl), mPas hV hF hm2 hc12, z_bnd]
        · refine ⟨bm ((wrk G (dfs G)).2.2 c), a2, b2, ?_, ?_, h.eq r3.eK fe⟩
          · unfold f_X7_sets
            simp only [kHB hk hV, if_pos hb0, z_bnd, one0, if_false, c1, c2, if_true, r1, hO, ho, Option.isNone_some, Bool.false_eq_true]
            rw [if_neg (by decide), if_neg (by decide), if_neg (by decide), z_in hc12 (by omega), z_chk, z_N (show c < 2147483648 by omega), r2.2.2.2.2.2.2.2 c hc12]
          · unfold f_X8_sets
            simp only [mNB hm0 hV, if_pos hb0, z_bnd, if_true, in_eqI, l0, l3, hw0, and_self, one0, if_false, s1, z_in hc12 (by omega), z_chk, z_N (show c < 2147483648 by omega), s2.2.1 c hc12, ho, oi_some, n9]
            rw [if_neg (by decide), if_neg (by decide), if_neg (by decide), s3.2.2 c hc12]
    · refine ⟨-2, a, nz_put b 0 0 0, ?_, ?_, h.eq (eK.rf a) em⟩
      · unfold f_X7_sets
        simp only [kHB hk hV, if_pos hb0, z_bnd, one0, if_false]
        by_cases c1 : w < 0
        · rw [if_pos c1]
        · have c2 : ¬ w ≤ 3 := by rw [fa_le, show (3 : Int32).toInt = 3 by decide]; rw [fa_lt, i0] at c1; omega
          rw [if_neg c1, if_neg c2]
      · unfold f_X8_sets
        simp only [mNB hm0 hV, if_pos hb0, z_bnd, if_true, in_eqI, l0, l3, hw, if_false]
  · refine ⟨-1, a, nz_put b 0 0 0, ?_, ?_, h.eq (eK.rf a) em⟩
    · unfold f_X7_sets
      simp only [kHB hk hV, if_neg hb, z_bnd, if_true]
    · unfold f_X8_sets
      simp only [mNB hm0 hV, if_neg hb, z_bnd, one0, if_false]
