/-! ===== a doing: what was is remembered, what was tried is now ===== -/
theorem remember_note (a b : nz_S) (G : zG) (hV : zV G) (hk : zK a 3 G) (hm : zM b 3 G) (hh : rHist (a.1 20 1) (a.1 20 2) (a.1 22) (a.1 23) (a.1 24) (a.1 25) (b.1 0 8) (b.1 5)) : ∃ a' b', f_X1_remember 3 a = some ((), a') ∧ f_X8_note b = some ((), b') ∧ rHist (a'.1 20 1) (a'.1 20 2) (a'.1 22) (a'.1 23) (a'.1 24) (a'.1 25) (b'.1 0 8) (b'.1 5) ∧ (∀ c, c ≠ 20 → c < 22 ∨ 25 < c → a'.1 c = a.1 c) ∧ a'.2 = a.2 ∧ (∀ c, c ≠ 0 → c ≠ 5 → b'.1 c = b.1 c) ∧ (∀ i, i ≠ 8 → b'.1 0 i = b.1 0 i) ∧ b'.2 = b.2 := by
  obtain ⟨f, n, hg, hf, hn, e1, e2, e3, hh⟩ := hh
  obtain ⟨a1, q1, q2, q3, q4, q5, q6, q7⟩ := kStore 21 14 3 ((f + n) % 14) a (Nat.mod_lt _ (by omega)) (by omega) (by omega)
  have em : nI f + nI n - (nI f + nI n) / 14 * 14 = nI ((f + n) % 14) := by rw [nI_add, i14 (by omega)]
  have s20 : a1.1 20 = a.1 20 := q6 20 (by omega)
  have stored : ∀ p, p = (f + n) % 14 → zKf (a1.1 22 p) (a1.1 23) (a1.1 24) (a1.1 25) p G := by
    intro p hp
    subst hp
    refine zKf_cp hV hk (by rw [q2, if_pos rfl]) (fun i hi => ?_) (fun i hi => ?_) (fun i hi => ?_)
    · rw [q3, if_pos (by omega), show 12 * ((f + n) % 14) + i - 12 * ((f + n) % 14) = 12 * 0 + i by omega]
    · rw [q4, if_pos (by omega), show 12 * ((f + n) % 14) + i - 12 * ((f + n) % 14) = 12 * 0 + i by omega]
    · rw [q5, if_pos (by omega), show 36 * ((f + n) % 14) + i - 36 * ((f + n) % 14) = 36 * 0 + i by omega]
  have others : ∀ p g, p ≠ (f + n) % 14 → p < 14 → zV g → zKf (a.1 22 p) (a.1 23) (a.1 24) (a.1 25) p g → zKf (a1.1 22 p) (a1.1 23) (a1.1 24) (a1.1 25) p g := by
    intro p g hp hp2 hg2 hz
    refine zKf_cp hg2 hz (by rw [q2, if_neg hp]) (fun i hi => ?_) (fun i hi => ?_) (fun i hi => ?_)
    · rw [q3, if_neg (by omega)]
    · rw [q4, if_neg (by omega)]
    · rw [q5, if_neg (by omega)]
  by_cases hn14 : n = 14
  · subst hn14
    have k1 : (14 : Int32) ≤ nI 14 := by decide
    have ev : nI f + 1 - (nI f + 1) / 14 * 14 = nI ((f + 1) % 14) := by rw [nI_1, i14 (by omega)]
    have hb8 : b.1 0 8 = 14 := e3
    have s1 := mNote_11 b (fun u18 x17 => let x19 : nz_S := nz_put x17 0 8 ((x17.1 0 8) - 1); f_X8_note_51 nz_F 0 x19 fun u21 x20 => let x22 : nz_S := nz_put x20 0 8 ((x20.1 0 8) + 1); some ((), x22)) 793 0 nz_F (by omega) (by unfold nz_F; omega)
    rw [zsh_0, nI_0] at s1
    have z8 : (zsh b 793).1 0 8 = nI 14 := by unfold zsh; rw [z_set1, if_neg (by omega), e3]
    have y8 : (nz_put (zsh b 793) 0 8 (nI 13)).1 0 8 = nI 13 := by rw [z_put1, if_pos rfl, z_upd, if_pos rfl]
    have s2 := mNote_51 (nz_put (zsh b 793) 0 8 (nI 13)) 13 (by omega) y8 (fun u21 x20 => let x22 : nz_S := nz_put x20 0 8 ((x20.1 0 8) + 1); some ((), x22)) 61 0 nz_F (by omega) (by decide)
    rw [zcp_0, nI_0] at s2
    have c8 : (zcp (nz_put (zsh b 793) 0 8 (nI 13)) 3 0 5 (61 * 13) 61).1 0 8 = nI 13 := by rw [zcp_o _ (show 0 ≠ 5 by omega), y8]
    refine ⟨nz_put a1 20 1 (nI ((f + 1) % 14)), nz_put (zcp (nz_put (zsh b 793) 0 8 (nI 13)) 3 0 5 (61 * 13) 61) 0 8 (nI 14), ?_, ?_, ?_, ?_, ?_, ?_, ?_, ?_⟩
    · simp only [f_X1_remember, e1, e2, em, q1, z_bnd, s20, k1, if_true, ev]
    · simp only [f_X8_note, hb8, if_true]
      refine s1.trans ?_
      simp only [z8, show nI 14 - 1 = nI 13 from rfl]
      refine s2.trans ?_
      simp only [c8, show nI 13 + 1 = nI 14 from rfl]
    · refine ⟨(f + 1) % 14, 14, fun j => if j = 13 then G else hg (j + 1), Nat.mod_lt _ (by omega), by omega, ?_, ?_, ?_, fun j hj => ?_⟩
      · rw [z_put1, if_pos rfl, z_upd, if_pos rfl]
      · rw [z_put1, if_pos rfl, z_upd, if_neg (by omega), s20, e2]
      · rw [z_put1, if_pos rfl, z_upd, if_pos rfl]
      · have t : ∀ c, c ≠ 20 → (nz_put a1 20 1 (nI ((f + 1) % 14))).1 c = a1.1 c := fun c hc => by rw [z_put1, if_neg hc]
        have tb : (nz_put (zcp (nz_put (zsh b 793) 0 8 (nI 13)) 3 0 5 (61 * 13) 61) 0 8 (nI 14)).1 5 = (zcp (nz_put (zsh b 793) 0 8 (nI 13)) 3 0 5 (61 * 13) 61).1 5 := by rw [z_put1, if_neg (by omega)]
        rw [t 22 (by omega), t 23 (by omega), t 24 (by omega), t 25 (by omega), tb]
        have ep : ((f + 1) % 14 + j) % 14 = (f + (j + 1)) % 14 := by omega
        rw [ep]
        by_cases hj13 : j = 13
        · subst hj13
          simp only [if_true]
          refine ⟨hV, stored _ (by omega), zMf_cp hV hm (fun i hi => ?_)⟩
          rw [zcp_in _ hi, z_put1, if_neg (by omega)]
          unfold zsh
          rw [z_set1, if_neg (by omega)]
        · simp only [if_neg hj13]
          obtain ⟨r1, r2, r3⟩ := hh (j + 1) (by omega)
          refine ⟨r1, others _ _ (by omega) (Nat.mod_lt _ (by omega)) r1 r2, zMf_cp r1 r3 (fun i hi => ?_)⟩
          rw [zcp_out _ (by omega), z_put1, if_neg (by omega)]
          unfold zsh
          rw [z_set1, if_pos rfl, if_pos (by omega)]
          rw [show 61 * j + i + 61 = 61 * (j + 1) + i by omega]
    · intro c hc hc2
      rw [z_put1, if_neg hc, q6 c (by omega)]
    · rw [z_put2, q7]
    · intro c hc hc2
      rw [z_put1, if_neg hc, zcp_o _ hc2, z_put1, if_neg hc]
      unfold zsh
      rw [z_set1, if_neg hc2]
    · intro i hi
      rw [z_put1, if_pos rfl, z_upd, if_neg hi, zcp_o _ (show 0 ≠ 5 by omega), z_put1, if_pos rfl, z_upd, if_neg hi]
      unfold zsh
      rw [z_set1, if_neg (by omega)]
    · rw [z_put2, zcp_2, z_put2]; unfold zsh; rw [z_set2]
  · have k1 : ¬ (14 : Int32) ≤ nI n := by rw [show (14 : Int32) = nI 14 from rfl, z_le (by omega) (by omega)]; omega
    have k2 : ¬ nI n = 14 := fun e => hn14 ((z_eq (b := 14) (by omega) (by omega)).mp e)
    have s2 := mNote_51 b n (by omega) e3 (fun u9 x8 => let x10 : nz_S := nz_put x8 0 8 ((x8.1 0 8) + 1); some ((), x10)) 61 0 nz_F (by omega) (by decide)
    rw [zcp_0, nI_0] at s2
    have c8 : (zcp b 3 0 5 (61 * n) 61).1 0 8 = nI n := by rw [zcp_o _ (show 0 ≠ 5 by omega), e3]
    refine ⟨nz_put a1 20 2 (nI (n + 1)), nz_put (zcp b 3 0 5 (61 * n) 61) 0 8 (nI (n + 1)), ?_, ?_, ?_, ?_, ?_, ?_, ?_, ?_⟩
    · simp only [f_X1_remember, e1, e2, em, q1, z_bnd, s20, k1, if_false, nI_1]
    · simp only [f_X8_note, e3, k2, if_false]
      refine s2.trans ?_
      simp only [c8, nI_1]
    · refine ⟨f, n + 1, fun j => if j = n then G else hg j, hf, by omega, ?_, ?_, ?_, fun j hj => ?_⟩
      · rw [z_put1, if_pos rfl, z_upd, if_neg (by omega), s20, e1]
      · rw [z_put1, if_pos rfl, z_upd, if_pos rfl]
      · rw [z_put1, if_pos rfl, z_upd, if_pos rfl]
      · have t : ∀ c, c ≠ 20 → (nz_put a1 20 2 (nI (n + 1))).1 c = a1.1 c := fun c hc => by rw [z_put1, if_neg hc]
        have tb : (nz_put (zcp b 3 0 5 (61 * n) 61) 0 8 (nI (n + 1))).1 5 = (zcp b 3 0 5 (61 * n) 61).1 5 := by rw [z_put1, if_neg (by omega)]
        rw [t 22 (by omega), t 23 (by omega), t 24 (by omega), t 25 (by omega), tb]
        by_cases hjn : j = n
        · subst hjn
          simp only [if_true]
          refine ⟨hV, stored _ rfl, zMf_cp hV hm (fun i hi => ?_)⟩
          rw [zcp_in _ hi]
        · simp only [if_neg hjn]
          obtain ⟨r1, r2, r3⟩ := hh j (by omega)
          refine ⟨r1, others _ _ (by omega) (Nat.mod_lt _ (by omega)) r1 r2, zMf_cp r1 r3 (fun i hi => ?_)⟩
          rw [zcp_out _ (by omega)]
    · intro c hc hc2
      rw [z_put1, if_neg hc, q6 c (by omega)]
    · rw [z_put2, q7]
    · intro c hc hc2
      rw [z_put1, if_neg hc, zcp_o _ hc2]
    · intro i hi
      rw [z_put1, if_pos rfl, z_upd, if_neg hi, zcp_o _ (show 0 ≠ 5 by omega)]
    · rw [z_put2, zcp_2]
theorem doing {a a2 b b0 : nz_S} {G G' : zG} (h : zR a b) (h0 : eM b b0) (hV : zV G) (hk : zK a 3 G) (hm : zM b 3 G) (e2 : eK a a2) (hV' : zV G') (hk2 : zK a2 7 G') {r : Nat} (hr : r < 100) : ∃ a', f_X7_settle (nI r) a2 = some (nI r, a') ∧ ∃ b1, f_X8_note b0 = some ((), b1) ∧ zM b1 3 G ∧ ∀ b2, (∀ c, c ≠ 3 → b2.1 c = b1.1 c) → b2.2 = b1.2 → zM b2 3 G' → zR a' b2 := by
  have h' := h.eq e2 h0
  obtain ⟨h1, h2, h3, h4, h5, h6⟩ := h'
  have hk3 : zK a2 3 G := by
    unfold zK
    rw [e2.1 3 (by omega), e2.1 (3 + 1) (by omega), e2.1 (3 + 2) (by omega), e2.1 (3 + 3) (by omega)]
    exact hk
  have hm3 : zM b0 3 G := by
    unfold zM
    rw [h0.1 3 (by omega)]
    exact hm
  obtain ⟨a3, b1, s1, s2, s3, s4, s5, s6, s7, s8⟩ := remember_note a2 b0 G hV hk3 hm3 h3
  have hk7 : zK a3 7 G' := by
    unfold zK
    rw [s4 7 (by omega) (by omega), s4 (7 + 1) (by omega) (by omega), s4 (7 + 2) (by omega) (by omega), s4 (7 + 3) (by omega) (by omega)]
    exact hk2
  obtain ⟨a', t1, t2, t3, t4⟩ := kCopyG (g := 3) (g2 := 7) (by omega) hV' hk7
  have k1 : ¬ nI r < 0 := nI_pos (by omega)
  refine ⟨a', by simp only [f_X7_settle, k1, if_false, s1, z_bnd, t1], b1, s2, ?_, ?_⟩
  · unfold zM
    rw [s6 3 (by omega) (by omega)]
    exact hm3
  · intro b2 u1 u2 u3
    have c1 : ∀ c, (c < 3 ∨ 6 < c) → c ≠ 20 → c < 22 ∨ 25 < c → a'.1 c = a2.1 c := fun c hc hc2 hc3 => by rw [t3 c (by omega), s4 c hc2 hc3]
    have c2 : ∀ c, c = 20 ∨ (22 ≤ c ∧ c ≤ 25) → a'.1 c = a3.1 c := fun c hc => t3 c (by omega)
    have d1 : ∀ c, c ≠ 0 → c ≠ 5 → c ≠ 3 → b2.1 c = b0.1 c := fun c hc hc2 hc3 => by rw [u1 c hc3, s6 c hc hc2]
    unfold zR
    rw [c1 1 (by omega) (by omega) (by omega), c1 2 (by omega) (by omega) (by omega), c1 28 (by omega) (by omega) (by omega), c1 29 (by omega) (by omega) (by omega), c1 30 (by omega) (by omega) (by omega), c1 31 (by omega) (by omega) (by omega), c1 32 (by omega) (by omega) (by omega), c1 33 (by omega) (by omega) (by omega), c1 34 (by omega) (by omega) (by omega), c1 35 (by omega) (by omega) (by omega), c1 36 (by omega) (by omega) (by omega), c2 20 (by omega), c2 22 (by omega), c2 23 (by omega), c2 24 (by omega), c2 25 (by omega), d1 1 (by omega) (by omega) (by omega), d1 6 (by omega) (by omega) (by omega), d1 7 (by omega) (by omega) (by omega), d1 8 (by omega) (by omega) (by omega), d1 9 (by omega) (by omega) (by omega), d1 10 (by omega) (by omega) (by omega), u1 0 (by omega), u1 5 (by omega), s7 2 (by omega), s7 11 (by omega), u2, s8]
    exact ⟨h1, ⟨G', hV', t2, u3⟩, s3, h4, h5, by rw [t4, s5]; exact h6⟩
/-! ===== an arc more ===== -/
def gAdd (G : zG) (b t : Nat) : zG := (G.1, G.2.1, fun c => if c = b then G.2.2 b ++ [t] else G.2.2 c)
theorem gAdd_V {G : zG} {b t : Nat} (hV : zV G) (hb : b < G.1) (ht : t < G.1) (hl : (G.2.2 b).length < 3) : zV (gAdd G b t) := by
  refine ⟨hV.1, fun c hc => ?_⟩
  have hc : c < G.1 := hc
  show (if c = b then G.2.2 b ++ [t] else G.2.2 c).length ≤ 3 ∧ ∀ s, s ∈ (if c = b then G.2.2 b ++ [t] else G.2.2 c) → s < G.1
  by_cases h : c = b
  · rw [if_pos h]
    refine ⟨by rw [List.length_append]; simp; omega, fun s hs => ?_⟩
    rcases List.mem_append.mp hs with q | q
    · exact (hV.2 b hb).2 s q
    · rw [List.mem_singleton.mp q]; exact ht
  · rw [if_neg h]; exact hV.2 c hc
theorem getD_app {l : List Nat} {t i : Nat} (hi : i < (l ++ [t]).length) : (l ++ [t]).getD i 0 = if i = l.length then t else l.getD i 0 := by
  rw [List.length_append] at hi
  simp only [List.length_cons, List.length_nil] at hi
  by_cases h : i = l.length
  · subst h
    simp
  · rw [if_neg h, List.getD_eq_getElem?_getD, List.getElem?_append_left (by omega), ← List.getD_eq_getElem?_getD]
theorem kPut {x : nz_S} {g b k : Nat} (hb : b < 12) (hk : k < 3) (hc : x.1 (g + 2) b = nI k) (v : Int32) : f_X0_putArcBehind g (nI b) v x = some ((), nz_put (nz_put x (g + 3) (3 * b + k) v) (g + 2) b (nI (k + 1))) := by
  have e : (nz_put x (g + 3) (3 * b + k) v).1 (g + 2) b = nI k := by rw [z_put1, if_neg (by omega), hc]
  simp only [f_X0_putArcBehind, z_in (show b < 12 by omega) (by omega), z_chk, z_N (show b < 2147483648 by omega), hc, idx3 hb hk, z_in (show 3 * b + k < 36 by omega) (by omega), z_N (show 3 * b + k < 2147483648 by omega), e, nI_1]
theorem kAddG {x : nz_S} {g : Nat} {G : zG} (h : zK x g G) (hV : zV G) {b t : Nat} (hb : b < G.1) (hl : (G.2.2 b).length < 3) : zK (nz_put (nz_put x (g + 3) (3 * b + (G.2.2 b).length) (nI t)) (g + 2) b (nI ((G.2.2 b).length + 1))) g (gAdd G b t) := by
  have hn := hV.1
  refine zK.mk ?_ (fun c hc => ?_)
  · rw [z_put1, if_neg (by omega), z_put1, if_neg (by omega), h.n]; rfl
  · have hc : c < G.1 := hc
    have hlc := hV.l hc
    refine ⟨?_, ?_, ?_⟩
    · rw [z_put1, if_neg (by omega), z_put1, if_neg (by omega), h.a hc]; rfl
    · show _ = nI (if c = b then G.2.2 b ++ [t] else G.2.2 c).length
      rw [z_put1, if_pos rfl, z_upd]
      by_cases hcb : c = b
      · rw [if_pos hcb, if_pos hcb, List.length_append]; rfl
      · rw [if_neg hcb, if_neg hcb, z_put1, if_neg (by omega), h.c hc]
    · show ∀ i, i < (if c = b then G.2.2 b ++ [t] else G.2.2 c).length → _ = nI ((if c = b then G.2.2 b ++ [t] else G.2.2 c).getD i 0)
      intro i hi
      rw [z_put1, if_neg (by omega), z_put1, if_pos rfl, z_upd]
      by_cases hcb : c = b
      · subst hcb
        simp only [if_true] at hi ⊢
        rw [getD_app hi]
        rw [List.length_append] at hi
        simp only [List.length_cons, List.length_nil] at hi
        by_cases hi2 : i = (G.2.2 c).length
        · rw [if_pos hi2, if_pos (by omega)]
        · rw [if_neg hi2, if_neg (by omega), h.t hc (by omega)]
      · simp only [if_neg hcb] at hi ⊢
        rw [if_neg (by omega), h.t hc hi]
theorem mAddG {x : nz_S} {p : Nat} {G : zG} (h : zM x p G) (hV : zV G) {b t : Nat} (hb : b < G.1) (hl : (G.2.2 b).length < 3) : f_X8_goAdd p (nI b) (nI t) x = some ((), nz_put (nz_put x p (25 + (3 * b + (G.2.2 b).length)) (nI t)) p (13 + b) (nI ((G.2.2 b).length + 1))) ∧ zM (nz_put (nz_put x p (25 + (3 * b + (G.2.2 b).length)) (nI t)) p (13 + b) (nI ((G.2.2 b).length + 1))) p (gAdd G b t) := by
  have hn := hV.1
  have e3 : (13 : Int32) + nI b = nI (13 + b) := by rw [show (13 : Int32) = nI 13 from rfl, nI_add]
  have e5 : ∀ i : Nat, (25 : Int32) + 3 * nI b + nI i = nI (25 + (3 * b + i)) := fun i => by
    rw [show (25 : Int32) = nI 25 from rfl, show (3 : Int32) = nI 3 from rfl, pk_mul, nI_add, nI_add, Nat.add_assoc]
  have q : (nz_put x p (25 + (3 * b + (G.2.2 b).length)) (nI t)).1 p (13 + b) = nI (G.2.2 b).length := by rw [z_put1, if_pos rfl, z_upd, if_neg (by omega), h.c hb]
  refine ⟨?_, zM.mk ?_ (fun c hc => ?_)⟩
  · simp only [f_X8_goAdd, e3, e5, z_in (show 13 + b < 61 by omega) (by omega), z_chk, z_N (show 13 + b < 2147483648 by omega), h.c hb, z_in (show 25 + (3 * b + (G.2.2 b).length) < 61 by omega) (by omega), z_N (show 25 + (3 * b + (G.2.2 b).length) < 2147483648 by omega), q, nI_1]
  · rw [z_put1, if_pos rfl, z_upd, if_neg (by omega), z_put1, if_pos rfl, z_upd, if_neg (by omega), h.n]; rfl
  · have hc : c < G.1 := hc
    have hlc := hV.l hc
    refine ⟨?_, ?_, ?_⟩
    · rw [z_put1, if_pos rfl, z_upd, if_neg (by omega), z_put1, if_pos rfl, z_upd, if_neg (by omega), h.a hc]; rfl
    · show _ = nI (if c = b then G.2.2 b ++ [t] else G.2.2 c).length
      rw [z_put1, if_pos rfl, z_upd]
      by_cases hcb : c = b
      · rw [if_pos (by omega), if_pos hcb, List.length_append]; rfl
      · rw [if_neg (by omega), if_neg hcb, z_put1, if_pos rfl, z_upd, if_neg (by omega), h.c hc]
    · show ∀ i, i < (if c = b then G.2.2 b ++ [t] else G.2.2 c).length → _ = nI ((if c = b then G.2.2 b ++ [t] else G.2.2 c).getD i 0)
      intro i hi
      by_cases hcb : c = b
      · subst hcb
        simp only [if_true] at hi ⊢
        rw [getD_app hi]
        rw [List.length_append] at hi
        simp only [List.length_cons, List.length_nil] at hi
        rw [z_put1, if_pos rfl, z_upd, if_neg (by omega), z_put1, if_pos rfl, z_upd]
        by_cases hi2 : i = (G.2.2 c).length
        · rw [if_pos hi2, if_pos (by omega)]
        · rw [if_neg hi2, if_neg (by omega), h.t hc (by omega)]
      · simp only [if_neg hcb] at hi ⊢
        rw [z_put1, if_pos rfl, z_upd, if_neg (by omega), z_put1, if_pos rfl, z_upd, if_neg (by omega), h.t hc hi]
