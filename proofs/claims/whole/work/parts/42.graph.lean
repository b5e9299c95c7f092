/-! ===== reading a graph, in the class ===== -/
def zK (x : nz_S) (g : Nat) (G : zG) : Prop := zKf (x.1 g 3) (x.1 (g + 1)) (x.1 (g + 2)) (x.1 (g + 3)) 0 G
def zM (x : nz_S) (p : Nat) (G : zG) : Prop := zMf (x.1 p) 0 G
theorem zK.n {x : nz_S} {g : Nat} {G : zG} (h : zK x g G) : x.1 g 3 = nI G.1 := h.1
theorem zK.a {x : nz_S} {g : Nat} {G : zG} (h : zK x g G) {b : Nat} (hb : b < G.1) : x.1 (g + 1) b = G.2.1 b := by
  have := (h.2 b hb).1
  rwa [Nat.mul_zero, Nat.zero_add] at this
theorem zK.c {x : nz_S} {g : Nat} {G : zG} (h : zK x g G) {b : Nat} (hb : b < G.1) : x.1 (g + 2) b = nI (G.2.2 b).length := by
  have := (h.2 b hb).2.1
  rwa [Nat.mul_zero, Nat.zero_add] at this
theorem zK.t {x : nz_S} {g : Nat} {G : zG} (h : zK x g G) {b i : Nat} (hb : b < G.1) (hi : i < (G.2.2 b).length) : x.1 (g + 3) (3 * b + i) = nI ((G.2.2 b).getD i 0) := by
  have := (h.2 b hb).2.2 i hi
  rwa [Nat.mul_zero, Nat.zero_add] at this
theorem zM.n {x : nz_S} {p : Nat} {G : zG} (h : zM x p G) : x.1 p 0 = nI G.1 := h.1
theorem zM.a {x : nz_S} {p : Nat} {G : zG} (h : zM x p G) {b : Nat} (hb : b < G.1) : x.1 p (1 + b) = G.2.1 b := by
  have := (h.2 b hb).1
  rwa [Nat.mul_zero, Nat.zero_add] at this
theorem zM.c {x : nz_S} {p : Nat} {G : zG} (h : zM x p G) {b : Nat} (hb : b < G.1) : x.1 p (13 + b) = nI (G.2.2 b).length := by
  have := (h.2 b hb).2.1
  rwa [Nat.mul_zero, Nat.zero_add] at this
theorem zM.t {x : nz_S} {p : Nat} {G : zG} (h : zM x p G) {b i : Nat} (hb : b < G.1) (hi : i < (G.2.2 b).length) : x.1 p (25 + (3 * b + i)) = nI ((G.2.2 b).getD i 0) := by
  have := (h.2 b hb).2.2 i hi
  rwa [Nat.mul_zero, Nat.zero_add] at this
theorem zV.l {G : zG} (h : zV G) {b : Nat} (hb : b < G.1) : (G.2.2 b).length ≤ 3 := (h.2 b hb).1
theorem zV.t {G : zG} (h : zV G) {b i : Nat} (hb : b < G.1) (hi : i < (G.2.2 b).length) : (G.2.2 b).getD i 0 < G.1 := by
  have : (G.2.2 b).getD i 0 ∈ G.2.2 b := by
    rw [List.getD_eq_getElem?_getD, List.getElem?_eq_getElem hi]
    exact List.getElem_mem hi
  exact (h.2 b hb).2 _ this
theorem zK.mk {x : nz_S} {g : Nat} {G : zG} (h1 : x.1 g 3 = nI G.1) (h2 : ∀ b, b < G.1 → x.1 (g + 1) b = G.2.1 b ∧ x.1 (g + 2) b = nI (G.2.2 b).length ∧ ∀ i, i < (G.2.2 b).length → x.1 (g + 3) (3 * b + i) = nI ((G.2.2 b).getD i 0)) : zK x g G := ⟨h1, fun b hb => by simpa only [Nat.mul_zero, Nat.zero_add] using h2 b hb⟩
theorem zM.mk {x : nz_S} {p : Nat} {G : zG} (h1 : x.1 p 0 = nI G.1) (h2 : ∀ b, b < G.1 → x.1 p (1 + b) = G.2.1 b ∧ x.1 p (13 + b) = nI (G.2.2 b).length ∧ ∀ i, i < (G.2.2 b).length → x.1 p (25 + (3 * b + i)) = nI ((G.2.2 b).getD i 0)) : zM x p G := ⟨h1, fun b hb => by simpa only [Nat.mul_zero, Nat.zero_add] using h2 b hb⟩
/-- an int that tells a block (or a place), or none -/
def ib (v : Int32) (n : Nat) : Prop := 0 ≤ v.toInt ∧ v.toInt < n
theorem ib_ex {v : Int32} {n : Nat} (h : ib v n) : ∃ k, k < n ∧ v = nI k := by
  have hr : v.toInt < 2147483648 := by
    have := Int32.toInt_lt v
    simpa using this
  obtain ⟨h1, h2⟩ := h
  refine ⟨v.toInt.toNat, by omega, nz_i32 ?_⟩
  rw [nI_toInt (by omega)]; omega
theorem ib_nI {k n : Nat} (hk : k < 2147483648) : ib (nI k) n ↔ k < n := by
  unfold ib
  rw [nI_toInt hk]
  omega
theorem kHB {x : nz_S} {g : Nat} {G : zG} (h : zK x g G) (hV : zV G) (v : Int32) : f_X0_hasBlock g v x = some (if 0 ≤ v.toInt ∧ v.toInt < G.1 then 1 else 0, x) := by
  have hn := hV.1
  unfold f_X0_hasBlock
  rw [h.n]
  have e1 : v < 0 ↔ v.toInt < 0 := by rw [fa_lt, i0]
  have e2 : nI G.1 ≤ v ↔ (G.1 : Int) ≤ v.toInt := by rw [fa_le, nI_toInt (by omega)]
  simp only [e1, e2]
  by_cases h1 : v.toInt < 0
  · rw [if_pos h1, if_neg (by omega)]
  · rw [if_neg h1]
    by_cases h2 : (G.1 : Int) ≤ v.toInt
    · rw [if_pos h2, if_neg (by omega)]
    · rw [if_neg h2, if_pos (by omega)]
def hasA (G : zG) (v w : Int32) : Bool := decide (0 ≤ v.toInt ∧ v.toInt < G.1 ∧ 0 ≤ w.toInt ∧ w.toInt < (G.2.2 v.toInt.toNat).length)
theorem hasA_ex {G : zG} (hV : zV G) {v w : Int32} : hasA G v w = true ↔ ∃ b i, b < G.1 ∧ i < (G.2.2 b).length ∧ v = nI b ∧ w = nI i := by
  have hn := hV.1
  unfold hasA
  rw [decide_eq_true_iff]
  constructor
  · rintro ⟨h1, h2, h3, h4⟩
    obtain ⟨b, hb, rfl⟩ := ib_ex (v := v) (n := G.1) ⟨h1, h2⟩
    rw [nI_toInt (by omega)] at h4
    obtain ⟨i, hi, rfl⟩ := ib_ex (v := w) (n := (G.2.2 b).length) ⟨h3, by simpa using h4⟩
    exact ⟨b, i, hb, hi, rfl, rfl⟩
  · rintro ⟨b, i, hb, hi, rfl, rfl⟩
    have hl := hV.l hb
    rw [nI_toInt (by omega), nI_toInt (by omega)]
    refine ⟨by omega, by omega, by omega, ?_⟩
    simpa using hi
theorem hasA_no {G : zG} (hV : zV G) {v w : Int32} (h : hasA G v w = false) : ¬ ∃ b i, b < G.1 ∧ i < (G.2.2 b).length ∧ v = nI b ∧ w = nI i := fun q => by
  rw [(hasA_ex hV).mpr q] at h; cases h
theorem kHA {x : nz_S} {g : Nat} {G : zG} (h : zK x g G) (hV : zV G) (v w : Int32) : f_X0_hasArc g v w x = some (if hasA G v w then 1 else 0, x) := by
  have hn := hV.1
  unfold f_X0_hasArc
  rw [kHB h hV]
  simp only [z_bnd]
  have hp : ∀ {v w : Int32}, hasA G v w = true ↔ ∃ b i, b < G.1 ∧ i < (G.2.2 b).length ∧ v = nI b ∧ w = nI i := hasA_ex hV
  by_cases hb : 0 ≤ v.toInt ∧ v.toInt < G.1
  · obtain ⟨b, hb2, rfl⟩ := ib_ex hb
    have hl := hV.l hb2
    simp only [if_pos hb, show ¬ (1 : Int32) = 0 by decide, if_false, z_in (show b < 12 by omega) (by omega), z_chk, z_N (show b < 2147483648 by omega), h.c hb2]
    have e1 : w < 0 ↔ w.toInt < 0 := by rw [fa_lt, i0]
    have e2 : nI (G.2.2 b).length ≤ w ↔ ((G.2.2 b).length : Int) ≤ w.toInt := by rw [fa_le, nI_toInt (by omega)]
    simp only [e1, e2]
    by_cases h1 : w.toInt < 0
    · rw [if_pos h1, if_neg]
      rw [hp]
      rintro ⟨b', i, h2, h3, h4, h5⟩
      rw [h5, nI_toInt (by have := hV.l h2; omega)] at h1
      omega
    · rw [if_neg h1]
      by_cases h2 : ((G.2.2 b).length : Int) ≤ w.toInt
      · rw [if_pos h2, if_neg]
        rw [hp]
        rintro ⟨b', i, h3, h4, h5, h6⟩
        have hl2 := hV.l h3
        have : b = b' := (z_eq (by omega) (by omega)).mp h5
        subst this
        rw [h6, nI_toInt (by omega)] at h2
        omega
      · rw [if_neg h2, if_pos]
        rw [hp]
        obtain ⟨i, hi, rfl⟩ := ib_ex (v := w) (n := (G.2.2 b).length) ⟨by omega, by omega⟩
        exact ⟨b, i, hb2, hi, rfl, rfl⟩
  · simp only [if_neg hb, if_true]
    rw [if_neg]
    rw [hp]
    rintro ⟨b', i, h2, h3, h4, h5⟩
    apply hb
    rw [h4, nI_toInt (by omega)]
    omega
theorem idx3 {b i : Nat} (hb : b < 12) (hi : i < 3) : nI b * 3 + nI i = nI (3 * b + i) := by
  rw [show (3 : Int32) = nI 3 from rfl, pk_mul, nI_add, Nat.mul_comm]
theorem kTG {x : nz_S} {g : Nat} {G : zG} (h : zK x g G) (hV : zV G) {b i : Nat} (hb : b < G.1) (hi : i < (G.2.2 b).length) : f_X0_target g (nI b) (nI i) x = some (nI ((G.2.2 b).getD i 0), x) := by
  have hn := hV.1
  have hl := hV.l hb
  unfold f_X0_target
  simp only [idx3 (show b < 12 by omega) (show i < 3 by omega), z_in (show 3 * b + i < 36 by omega) (by omega), z_chk, z_N (show 3 * b + i < 2147483648 by omega), h.t hb hi]
/-! ===== reading a graph, in the reference ===== -/
theorem mNB {x : nz_S} {G : zG} (h : zM x 3 G) (hV : zV G) (v : Int32) : f_X8_noBlock v x = some (if 0 ≤ v.toInt ∧ v.toInt < G.1 then 0 else 1, x) := by
  have hn := hV.1
  unfold f_X8_noBlock
  have e0 : ((0 : Int32)).toNatClampNeg = 0 := rfl
  have e1 : (nI G.1 - 1).toInt = (G.1 : Int) - 1 := pk_sub_toInt (b := 1) (by omega) (by omega)
  simp only [show nz_in 0 61 = true from rfl, z_chk, e0, h.n, in_eqI, i64_toInt, l0, e1, z_bnd]
  by_cases h1 : 0 ≤ v.toInt ∧ v.toInt < G.1
  · have hc : 0 ≤ v.toInt ∧ v.toInt ≤ (G.1 : Int) - 1 := by omega
    simp only [if_pos h1, if_pos hc, show ¬ (1 : Int32) = 0 by decide, if_false]
  · have hc : ¬ (0 ≤ v.toInt ∧ v.toInt ≤ (G.1 : Int) - 1) := by omega
    simp only [if_neg h1, if_neg hc, if_true]
theorem mNA {x : nz_S} {G : zG} (h : zM x 3 G) (hV : zV G) (v w : Int32) : f_X8_noArc v w x = some (if hasA G v w then 0 else 1, x) := by
  have hn := hV.1
  unfold f_X8_noArc
  rw [mNB h hV]
  simp only [z_bnd]
  have hp : ∀ {v w : Int32}, hasA G v w = true ↔ ∃ b i, b < G.1 ∧ i < (G.2.2 b).length ∧ v = nI b ∧ w = nI i := hasA_ex hV
  by_cases hb : 0 ≤ v.toInt ∧ v.toInt < G.1
  · obtain ⟨b, hb2, rfl⟩ := ib_ex hb
    have hl := hV.l hb2
    have e3 : (13 : Int32) + nI b = nI (13 + b) := by rw [show (13 : Int32) = nI 13 from rfl, nI_add]
    have e1 : (nI (G.2.2 b).length - 1).toInt = ((G.2.2 b).length : Int) - 1 := pk_sub_toInt (b := 1) (by omega) (by omega)
    simp only [if_pos hb, if_true, e3, z_in (show 13 + b < 61 by omega) (by omega), z_chk, z_N (show 13 + b < 2147483648 by omega), h.c hb2, in_eqI, i64_toInt, l0, e1, z_bnd]
    by_cases h1 : 0 ≤ w.toInt ∧ w.toInt < (G.2.2 b).length
    · obtain ⟨i, hi, rfl⟩ := ib_ex h1
      have hc : 0 ≤ (nI i).toInt ∧ (nI i).toInt ≤ ((G.2.2 b).length : Int) - 1 := by omega
      simp only [if_pos hc, show ¬ (1 : Int32) = 0 by decide, if_false, if_pos (hp.mpr ⟨b, i, hb2, hi, rfl, rfl⟩)]
    · have hc : ¬ (0 ≤ w.toInt ∧ w.toInt ≤ ((G.2.2 b).length : Int) - 1) := by omega
      simp only [if_neg hc, if_true]
      rw [if_neg]
      rw [hp]
      rintro ⟨b', i, h3, h4, h5, h6⟩
      have hl2 := hV.l h3
      have : b = b' := (z_eq (by omega) (by omega)).mp h5
      subst this
      apply h1
      rw [h6, nI_toInt (by omega)]
      omega
  · simp only [if_neg hb, show ¬ (1 : Int32) = 0 by decide, if_false]
    rw [if_neg]
    rw [hp]
    rintro ⟨b', i, h2, h3, h4, h5⟩
    apply hb
    rw [h4, nI_toInt (by omega)]
    omega
/-! ===== arc ===== -/
theorem sim_arc (v w : Int32) (a b : nz_S) (h : zR a b) : nz_both zR (f_X7_arc v w a) (f_X8_arc v w b) := by
  have h0 := h
  obtain ⟨h1, ⟨G, hV, hk, hm⟩, h2⟩ := h
  have hk : zK a 3 G := hk
  have hm : zM (nz_put b 0 0 0) 3 G := hm
  have hn := hV.1
  cases hc : hasA G v w with
  | true =>
    obtain ⟨c, i, hc1, hi, rfl, rfl⟩ := (hasA_ex hV).mp hc
    have hl := hV.l hc1
    refine ⟨nI ((G.2.2 c).getD i 0), a, nz_put b 0 0 0, ?_, ?_, h0.eq (eK.rf a) (eM_put0 _ _ _ (by omega))⟩
    · simp only [f_X7_arc, kHA hk hV, hc, z_bnd, show ¬ (1 : Int32) = 0 by decide, if_false, if_true, kTG hk hV hc1 hi]
    · have e : (25 : Int32) + 3 * nI c + nI i = nI (25 + (3 * c + i)) := by
        rw [show (25 : Int32) = nI 25 from rfl, show (3 : Int32) = nI 3 from rfl, pk_mul, nI_add, nI_add, Nat.add_assoc]
      simp only [f_X8_arc, mNA hm hV, hc, z_bnd, if_true, e, z_in (show 25 + (3 * c + i) < 61 by omega) (by omega), z_chk, z_N (show 25 + (3 * c + i) < 2147483648 by omega), hm.t hc1 hi]
  | false =>
    refine ⟨-1, a, nz_put b 0 0 0, ?_, ?_, h0.eq (eK.rf a) (eM_put0 _ _ _ (by omega))⟩
    · simp only [f_X7_arc, kHA hk hV, hc, z_bnd, if_true, Bool.false_eq_true, if_false]
    · simp only [f_X8_arc, mNA hm hV, hc, z_bnd, show ¬ (1 : Int32) = 0 by decide, Bool.false_eq_true, if_false]
