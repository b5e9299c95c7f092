/-! ===== graphs, as numbers: how many blocks, acts, where the arcs go ===== -/
abbrev zG : Type := Nat × (Nat → Int32) × (Nat → List Nat)
def zV (G : zG) : Prop := G.1 ≤ 12 ∧ ∀ b, b < G.1 → (G.2.2 b).length ≤ 3 ∧ ∀ t, t ∈ G.2.2 b → t < G.1
def zKf (sz : Int32) (fa fc ft : Nat → Int32) (o : Nat) (G : zG) : Prop := sz = nI G.1 ∧ ∀ b, b < G.1 → fa (12 * o + b) = G.2.1 b ∧ fc (12 * o + b) = nI (G.2.2 b).length ∧ ∀ i, i < (G.2.2 b).length → ft (36 * o + (3 * b + i)) = nI ((G.2.2 b).getD i 0)
def zMf (f : Nat → Int32) (o : Nat) (G : zG) : Prop := f (61 * o) = nI G.1 ∧ ∀ b, b < G.1 → f (61 * o + (1 + b)) = G.2.1 b ∧ f (61 * o + (13 + b)) = nI (G.2.2 b).length ∧ ∀ i, i < (G.2.2 b).length → f (61 * o + (25 + (3 * b + i))) = nI ((G.2.2 b).getD i 0)
/-! ===== the relation between the class' cells and the reference's ===== -/
def rText (l : Int32) (f : Nat → Int32) (l' : Int32) (f' : Nat → Int32) : Prop := ∃ n, n ≤ 64 ∧ l = nI n ∧ l' = nI n ∧ ∀ i, i < n → f i = f' i ∧ 0 ≤ (f i).toInt ∧ (f i).toInt ≤ 255
def rGraph (sz : Int32) (fa fc ft p : Nat → Int32) : Prop := ∃ G, zV G ∧ zKf sz fa fc ft 0 G ∧ zMf p 0 G
def rHist (fi ct : Int32) (sz fa fc ft : Nat → Int32) (d : Int32) (b : Nat → Int32) : Prop := ∃ (f n : Nat) (hg : Nat → zG), f < 14 ∧ n ≤ 14 ∧ fi = nI f ∧ ct = nI n ∧ d = nI n ∧ ∀ j, j < n → zV (hg j) ∧ zKf (sz ((f + j) % 14)) fa fc ft ((f + j) % 14) (hg j) ∧ zMf b j (hg j)
def rSlot (fl : Int32) (sz fa fc ft : Nat → Int32) (k : Nat) (kp : Int32) (b : Nat → Int32) : Prop := (fl = 0 ∧ kp = 0) ∨ (fl = 1 ∧ kp = 1 ∧ ∃ G, zV G ∧ zKf (sz k) fa fc ft k G ∧ zMf b k G)
def rSeen (n : Int32) (fk fl fw : Nat → Int32) (n' : Int32) (fk' fl' fw' : Nat → Int32) : Prop := ∃ m, m ≤ 6 ∧ n = nI m ∧ n' = nI m ∧ ∀ i, i < m → (∃ k, k ≤ 4 ∧ fk i = nI k ∧ fk' i = nI k) ∧ fl i = fl' i ∧ fw i = fw' i ∧ (fw i = 0 ∨ fw i = 1)
def zR (a b : nz_S) : Prop := rText (a.1 1 1) (a.1 2) (b.1 0 2) (b.1 1) ∧ rGraph (a.1 3 3) (a.1 4) (a.1 5) (a.1 6) (b.1 3) ∧ rHist (a.1 20 1) (a.1 20 2) (a.1 22) (a.1 23) (a.1 24) (a.1 25) (b.1 0 8) (b.1 5) ∧ (∀ k, k < 2 → rSlot (a.1 32 k) (a.1 28) (a.1 29) (a.1 30) (a.1 31) k (b.1 7 k) (b.1 6)) ∧ rSeen (a.1 33 3) (a.1 34) (a.1 35) (a.1 36) (b.1 0 11) (b.1 8) (b.1 9) (b.1 10) ∧ a.2 = b.2
/-- same outside what is only tried -/
def eK (a a' : nz_S) : Prop := (∀ c, c < 7 ∨ 19 < c → a'.1 c = a.1 c) ∧ a'.2 = a.2
def eM (b b' : nz_S) : Prop := (∀ c, c = 1 ∨ c = 3 ∨ (5 ≤ c ∧ c ≤ 10) → b'.1 c = b.1 c) ∧ b'.1 0 2 = b.1 0 2 ∧ b'.1 0 8 = b.1 0 8 ∧ b'.1 0 11 = b.1 0 11 ∧ b'.2 = b.2
theorem eK.rf (a : nz_S) : eK a a := ⟨fun _ _ => rfl, rfl⟩
theorem eM.rf (b : nz_S) : eM b b := ⟨fun _ _ => rfl, rfl, rfl, rfl, rfl⟩
theorem eK.tr {a b c : nz_S} (h : eK a b) (h2 : eK b c) : eK a c := ⟨fun k hk => (h2.1 k hk).trans (h.1 k hk), h2.2.trans h.2⟩
theorem eM.tr {a b c : nz_S} (h : eM a b) (h2 : eM b c) : eM a c := ⟨fun k hk => (h2.1 k hk).trans (h.1 k hk), h2.2.1.trans h.2.1, h2.2.2.1.trans h.2.2.1, h2.2.2.2.1.trans h.2.2.2.1, h2.2.2.2.2.trans h.2.2.2.2⟩
theorem zR.eq {a a' b b' : nz_S} (h : zR a b) (ha : eK a a') (hb : eM b b') : zR a' b' := by
  obtain ⟨h1, h2⟩ := ha
  obtain ⟨k1, k2, k3, k4, k5⟩ := hb
  unfold zR
  rw [h1 1 (by omega), h1 2 (by omega), h1 3 (by omega), h1 4 (by omega), h1 5 (by omega), h1 6 (by omega), h1 20 (by omega), h1 22 (by omega), h1 23 (by omega), h1 24 (by omega), h1 25 (by omega), h1 28 (by omega), h1 29 (by omega), h1 30 (by omega), h1 31 (by omega), h1 32 (by omega), h1 33 (by omega), h1 34 (by omega), h1 35 (by omega), h1 36 (by omega), h2, k1 1 (by omega), k1 3 (by omega), k1 5 (by omega), k1 6 (by omega), k1 7 (by omega), k1 8 (by omega), k1 9 (by omega), k1 10 (by omega), k2, k3, k4, k5]
  exact h
theorem eM_put0 (x : nz_S) (i : Nat) (v : Int32) (h : i ≠ 2 ∧ i ≠ 8 ∧ i ≠ 11) : eM x (nz_put x 0 i v) := by
  obtain ⟨h1, h2, h3⟩ := h
  refine ⟨fun c hc => ?_, ?_, ?_, ?_, rfl⟩
  · rw [z_put1, if_neg (by omega)]
  · rw [z_put1, if_pos rfl, z_upd, if_neg (by omega)]
  · rw [z_put1, if_pos rfl, z_upd, if_neg (by omega)]
  · rw [z_put1, if_pos rfl, z_upd, if_neg (by omega)]
theorem eM_put (x : nz_S) (c i : Nat) (v : Int32) (h : c = 2 ∨ c = 4 ∨ 10 < c) : eM x (nz_put x c i v) := by
  refine ⟨fun c' hc => ?_, ?_, ?_, ?_, rfl⟩
  all_goals rw [z_put1, if_neg (by omega)]
theorem eK_put (x : nz_S) (c i : Nat) (v : Int32) (h : 7 ≤ c ∧ c ≤ 19) : eK x (nz_put x c i v) := ⟨fun c' hc => by rw [z_put1, if_neg (by omega)], rfl⟩
theorem eK_set (x : nz_S) (c : Nat) (f : Nat → Int32) (h : 7 ≤ c ∧ c ≤ 19) : eK x (nz_set x c f) := ⟨fun c' hc => by rw [z_set1, if_neg (by omega)], rfl⟩
/-! ===== the reference's 'in' ===== -/
theorem lc_lt (a b : Int64) : lg_cmp a b < 0 ↔ a < b := by
  unfold lg_cmp
  by_cases h1 : b < a
  · simp only [h1, if_true]
    have : ¬ a < b := by rw [fa_lt64] at h1 ⊢; omega
    simp only [this, iff_false]; decide
  · simp only [h1, if_false]
    by_cases h2 : a = b
    · subst h2
      simp only [if_true]
      have : ¬ a < a := by rw [fa_lt64]; omega
      simp only [this, iff_false]; decide
    · simp only [h2, if_false]
      have : a < b := by rw [fa_lt64] at h1 ⊢; rw [fa_eq64] at h2; omega
      simp only [this, iff_true]; decide
theorem lc_gt (a b : Int64) : 0 < lg_cmp a b ↔ b < a := by
  unfold lg_cmp
  by_cases h1 : b < a
  · simp only [h1, if_true, iff_true]; decide
  · simp only [h1, if_false]
    by_cases h2 : a = b
    · simp only [h2, if_true, iff_false]; decide
    · simp only [h2, if_false, iff_false]; decide
theorem in_eq (a b c : Int64) (x : nz_S) : f_X8_in a b c x = some (if b ≤ a ∧ a ≤ c then 1 else 0, x) := by
  unfold f_X8_in
  simp only [lc_lt, lc_gt]
  by_cases h1 : a < b
  · rw [if_pos h1, if_neg (by rw [fa_le64, fa_le64]; rw [fa_lt64] at h1; omega)]
  · rw [if_neg h1]
    by_cases h2 : c < a
    · rw [if_pos h2, if_neg (by rw [fa_le64, fa_le64]; rw [fa_lt64] at h2; omega)]
    · rw [if_neg h2, if_pos (by rw [fa_le64, fa_le64]; rw [fa_lt64] at h1 h2; omega)]
theorem i64_toInt (a : Int32) : a.toInt64.toInt = a.toInt := by
  first | exact Int32.toInt_toInt64 a | simp
theorem in_eqI (a : Int32) (b c : Int64) (x : nz_S) : f_X8_in a.toInt64 b c x = some (if b.toInt ≤ a.toInt ∧ a.toInt ≤ c.toInt then 1 else 0, x) := by
  rw [in_eq]
  simp only [fa_le64, i64_toInt]
theorem l0 : (0 : Int64).toInt = 0 := by decide
theorem l1 : (1 : Int64).toInt = 1 := by decide
theorem l4 : (4 : Int64).toInt = 4 := by decide
theorem l255 : (255 : Int64).toInt = 255 := by decide
theorem l97 : (97 : Int64).toInt = 97 := by decide
theorem l122 : (122 : Int64).toInt = 122 := by decide
theorem i0 : (0 : Int32).toInt = 0 := by decide
theorem i1 : (1 : Int32).toInt = 1 := by decide
theorem i4 : (4 : Int32).toInt = 4 := by decide
theorem i255 : (255 : Int32).toInt = 255 := by decide
theorem i97 : (97 : Int32).toInt = 97 := by decide
theorem i122 : (122 : Int32).toInt = 122 := by decide
/-! ===== write, wipe, seed, see, unsee ===== -/
theorem sim_wipe (a b : nz_S) (h : zR a b) : nz_both zR (f_X7_wipe a) (f_X8_wipe b) := by
  obtain ⟨h1, h2⟩ := h
  obtain ⟨n, hn, e1, e2, h3⟩ := h1
  refine ⟨nI n, nz_put a 1 1 0, nz_put (nz_put b 0 0 0) 0 2 0, ?_, ?_, ?_⟩
  · simp only [f_X7_wipe, f_X6_clear, z_bnd, e1]
  · simp only [f_X8_wipe, z_put1, if_true, z_upd]
    rw [if_neg (by omega), e2]
  · unfold zR
    simp only [z_put1, z_upd, z_put2, ↓reduceIte, Nat.reduceEqDiff, reduceCtorEq]
    exact ⟨⟨0, by omega, rfl, rfl, fun i hi => by omega⟩, h2⟩
theorem sim_seed (v : Int64) (a b : nz_S) (h : zR a b) : nz_both zR (f_X7_seed v a) (f_X8_seed v b) := by
  obtain ⟨h1, h2, h3, h4, h5, h6⟩ := h
  refine ⟨a.2, nz_lng a v, nz_lng (nz_put b 0 0 0) v, rfl, ?_, ?_⟩
  · simp only [f_X8_seed, z_put2, h6]
  · unfold zR
    simp only [nz_lng, z_put1, z_upd, ↓reduceIte, Nat.reduceEqDiff, reduceCtorEq]
    exact ⟨h1, h2, h3, h4, h5, trivial⟩
theorem sim_write (v : Int32) (a b : nz_S) (h : zR a b) : nz_both zR (f_X7_write v a) (f_X8_write v b) := by
  have h0 := h
  obtain ⟨h1, h2⟩ := h
  obtain ⟨n, hn, e1, e2, h3⟩ := h1
  have E0 : (nz_put b 0 0 0).1 0 2 = nI n := by rw [z_put1, if_pos rfl, z_upd, if_neg (by omega), e2]
  by_cases hb : 0 ≤ v.toInt ∧ v.toInt ≤ 255
  · have k1 : ¬ v < 0 := by rw [fa_lt, i0]; omega
    have k2 : v ≤ 255 := by rw [fa_le, i255]; omega
    have k3 : ¬ (1 : Int32) = 0 := by decide
    by_cases hf : n = 64
    · subst hf
      refine ⟨-4, a, nz_put b 0 0 0, ?_, ?_, h0.eq (eK.rf a) (eM_put0 _ _ _ (by omega))⟩
      · have k4 : ¬ nI 64 < 64 := by decide
        simp only [f_X7_write, f_X6_append, k1, k2, e1, k4, z_bnd, ↓reduceIte]
      · have k4 : nI 64 = 64 := by decide
        simp only [f_X8_write, in_eqI, l0, l255, hb, and_self, ↓reduceIte, z_bnd, E0, k3, k4]
    · have k4 : nI n < 64 := (z_lt (b := 64) (by omega) (by omega)).mpr (by omega)
      have k5 : ¬ nI n = 64 := fun e => hf ((z_eq (b := 64) (by omega) (by omega)).mp e)
      refine ⟨nI (n + 1), nz_put (nz_put a 2 n v) 1 1 (nI (n + 1)), nz_put (nz_put (nz_put b 0 0 0) 1 n v) 0 2 (nI (n + 1)), ?_, ?_, ?_⟩
      · have q1 : (nz_put a 2 n v).1 1 1 = nI n := by rw [z_put1, if_neg (by omega), e1]
        simp only [f_X7_write, f_X6_append, k1, k2, e1, k4, z_bnd, ↓reduceIte, z_in (show n < 64 by omega) (by omega), z_chk, z_N (show n < 2147483648 by omega), q1, nI_1]
        simp only [z_put1, z_upd, ↓reduceIte]
      · have q1 : (nz_put (nz_put b 0 0 0) 1 n v).1 0 2 = nI n := by rw [z_put1, if_neg (by omega), E0]
        simp only [f_X8_write, in_eqI, l0, l255, hb, and_self, ↓reduceIte, z_bnd, E0, k3, k5, z_in (show n < 64 by omega) (by omega), z_chk, z_N (show n < 2147483648 by omega), q1, nI_1]
        simp only [z_put1, z_upd, ↓reduceIte]
      · unfold zR
        simp only [z_put1, z_put2, ↓reduceIte, Nat.reduceEqDiff, reduceCtorEq, upd]
        refine ⟨⟨n + 1, by omega, rfl, rfl, fun i hi => ?_⟩, h2⟩
        by_cases hi2 : i = n
        · simp only [z_upd, if_pos hi2]; exact ⟨trivial, hb⟩
        · simp only [z_upd, if_neg hi2]; exact h3 i (by omega)
  · refine ⟨-2, a, nz_put b 0 0 0, ?_, ?_, h0.eq (eK.rf a) (eM_put0 _ _ _ (by omega))⟩
    · by_cases k1 : v < 0
      · simp only [f_X7_write, k1, ↓reduceIte]
      · have k2 : ¬ v ≤ 255 := by rw [fa_le, i255]; rw [fa_lt, i0] at k1; omega
        simp only [f_X7_write, k1, k2, ↓reduceIte]
    · simp only [f_X8_write, in_eqI, l0, l255, hb, ↓reduceIte, z_bnd]
theorem sim_unsee (a b : nz_S) (h : zR a b) : nz_both zR (f_X7_unsee a) (f_X8_unsee b) := by
  obtain ⟨h1, h2, h3, h4, h5, h6⟩ := h
  obtain ⟨n, hn, e1, e2, h7⟩ := h5
  refine ⟨nI n, nz_put a 33 3 0, nz_put (nz_put b 0 0 0) 0 11 0, ?_, ?_, ?_⟩
  · simp only [f_X7_unsee, f_X3_clear, z_bnd, e1]
  · simp only [f_X8_unsee, z_put1, if_true, z_upd]
    rw [if_neg (by omega), e2]
  · unfold zR
    simp only [z_put1, z_upd, z_put2, ↓reduceIte, Nat.reduceEqDiff, reduceCtorEq]
    exact ⟨h1, h2, h3, h4, ⟨0, by omega, rfl, rfl, fun i hi => by omega⟩, h6⟩
theorem sim_see (k v w : Int32) (a b : nz_S) (h : zR a b) : nz_both zR (f_X7_see k v w a) (f_X8_see k v w b) := by
  have h0 := h
  obtain ⟨h1, h2, h3, h4, h5, h6⟩ := h
  obtain ⟨n, hn, e1, e2, h7⟩ := h5
  have k0 : ¬ (1 : Int32) = 0 := by decide
  have E0 : (nz_put b 0 0 0).1 0 11 = nI n := by rw [z_put1, if_pos rfl, z_upd, if_neg (by omega), e2]
  by_cases c1 : 0 ≤ k.toInt ∧ k.toInt ≤ 4
  · have a1 : ¬ k < 0 := by rw [fa_lt, i0]; omega
    have a2 : ¬ 4 < k := by rw [fa_lt, i4]; omega
    by_cases c2 : 97 ≤ v.toInt ∧ v.toInt ≤ 122
    · have a3 : ¬ v < 97 := by rw [fa_lt, i97]; omega
      have a4 : ¬ 122 < v := by rw [fa_lt, i122]; omega
      by_cases c3 : 0 ≤ w.toInt ∧ w.toInt ≤ 1
      · have a5 : ¬ w < 0 := by rw [fa_lt, i0]; omega
        have a6 : w ≤ 1 := by rw [fa_le, i1]; omega
        by_cases hf : n = 6
        · subst hf
          refine ⟨-4, a, nz_put b 0 0 0, ?_, ?_, h0.eq (eK.rf a) (eM_put0 _ _ _ (by omega))⟩
          · have k4 : ¬ nI 6 < 6 := by decide
            simp only [f_X7_see, f_X3_append, a1, a2, a3, a4, a5, a6, e1, k4, z_bnd, ↓reduceIte]
          · have k4 : nI 6 = 6 := by decide
            simp only [f_X8_see, in_eqI, l0, l1, l4, l97, l122, c1, c2, c3, and_self, ↓reduceIte, z_bnd, E0, k0, k4]
        · have k4 : nI n < 6 := (z_lt (b := 6) (by omega) (by omega)).mpr (by omega)
          have k5 : ¬ nI n = 6 := fun e => hf ((z_eq (b := 6) (by omega) (by omega)).mp e)
          have hw : w = 0 ∨ w = 1 := by
            rcases (show w.toInt = 0 ∨ w.toInt = 1 by omega) with q | q
            · exact Or.inl (nz_i32 (by rw [q, i0]))
            · exact Or.inr (nz_i32 (by rw [q, i1]))
          have hk : ∃ kk, kk ≤ 4 ∧ k = nI kk := by
            refine ⟨k.toInt.toNat, by omega, nz_i32 ?_⟩
            rw [nI_toInt (by omega)]; omega
          obtain ⟨kk, hkk, ek⟩ := hk
          refine ⟨nI (n + 1), nz_put (nz_put (nz_put (nz_put a 34 n k) 35 n v) 36 n w) 33 3 (nI (n + 1)), nz_put (nz_put (nz_put (nz_put (nz_put b 0 0 0) 8 n k) 9 n v) 10 n w) 0 11 (nI (n + 1)), ?_, ?_, ?_⟩
          · rcases hw with rfl | rfl
            · have k6 : ¬ (0 : Int32) = 1 := by decide
              simp only [f_X7_see, f_X3_append, a1, a2, a3, a4, a5, a6, e1, k4, k6, z_bnd, ↓reduceIte, z_put1, Nat.reduceEqDiff, z_in (show n < 6 by omega) (by omega), z_chk, z_N (show n < 2147483648 by omega), nI_1, z_upd]
            · simp only [f_X7_see, f_X3_append, a1, a2, a3, a4, a5, a6, e1, k4, z_bnd, ↓reduceIte, z_put1, Nat.reduceEqDiff, z_in (show n < 6 by omega) (by omega), z_chk, z_N (show n < 2147483648 by omega), nI_1, z_upd]
          · have q1 : (nz_put (nz_put b 0 0 0) 8 n k).1 0 11 = nI n := by rw [z_put1, if_neg (by omega), E0]
            have q2 : (nz_put (nz_put (nz_put b 0 0 0) 8 n k) 9 n v).1 0 11 = nI n := by rw [z_put1, if_neg (by omega), q1]
            have q3 : (nz_put (nz_put (nz_put (nz_put b 0 0 0) 8 n k) 9 n v) 10 n w).1 0 11 = nI n := by rw [z_put1, if_neg (by omega), q2]
            simp only [f_X8_see, in_eqI, l0, l1, l4, l97, l122, c1, c2, c3, and_self, ↓reduceIte, z_bnd, E0, k0, k5, z_in (show n < 6 by omega) (by omega), z_chk, z_N (show n < 2147483648 by omega), q1, q2, q3, nI_1]
            simp only [z_put1, z_upd, ↓reduceIte]
          · unfold zR
            simp only [z_put1, z_put2, ↓reduceIte, Nat.reduceEqDiff, reduceCtorEq, upd]
            refine ⟨h1, h2, h3, h4, ⟨n + 1, by omega, rfl, rfl, fun i hi => ?_⟩, h6⟩
            by_cases hi2 : i = n
            · simp only [z_upd, if_pos hi2]; exact ⟨⟨kk, hkk, ek, ek⟩, trivial, trivial, hw⟩
            · simp only [z_upd, if_neg hi2]; exact h7 i (by omega)
      · refine ⟨-2, a, nz_put b 0 0 0, ?_, ?_, h0.eq (eK.rf a) (eM_put0 _ _ _ (by omega))⟩
        · by_cases a5 : w < 0
          · simp only [f_X7_see, a1, a2, a3, a4, a5, ↓reduceIte]
          · have a6 : ¬ w ≤ 1 := by rw [fa_le, i1]; rw [fa_lt, i0] at a5; omega
            simp only [f_X7_see, a1, a2, a3, a4, a5, a6, ↓reduceIte]
        · simp only [f_X8_see, in_eqI, l0, l1, l4, l97, l122, c1, c2, c3, and_self, ↓reduceIte, z_bnd, k0]
    · refine ⟨-2, a, nz_put b 0 0 0, ?_, ?_, h0.eq (eK.rf a) (eM_put0 _ _ _ (by omega))⟩
      · by_cases a3 : v < 97
        · simp only [f_X7_see, a1, a2, a3, ↓reduceIte]
        · have a4 : 122 < v := by rw [fa_lt, i122]; rw [fa_lt, i97] at a3; omega
          simp only [f_X7_see, a1, a2, a3, a4, ↓reduceIte]
      · simp only [f_X8_see, in_eqI, l0, l4, l97, l122, c1, c2, and_self, ↓reduceIte, z_bnd, k0]
  · refine ⟨-2, a, nz_put b 0 0 0, ?_, ?_, h0.eq (eK.rf a) (eM_put0 _ _ _ (by omega))⟩
    · by_cases a1 : k < 0
      · simp only [f_X7_see, a1, ↓reduceIte]
      · have a2 : 4 < k := by rw [fa_lt, i4]; rw [fa_lt, i0] at a1; omega
        simp only [f_X7_see, a1, a2, ↓reduceIte]
    · simp only [f_X8_see, in_eqI, l0, l4, c1, ↓reduceIte, z_bnd]
