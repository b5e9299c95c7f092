/-! ===== figures of what was found: how many of a type ===== -/
def ctK (W : zW) (m b : Nat) : Nat := if m ≤ W.2.1 b then 1 else 0
theorem ctK_y {W : zW} {m b : Nat} (h : m ≤ W.2.1 b) : ctK W m b = 1 := by unfold ctK; rw [if_pos h]
theorem ctK_n {W : zW} {m b : Nat} (h : ¬ m ≤ W.2.1 b) : ctK W m b = 0 := by unfold ctK; rw [if_neg h]
def cts (W : zW) (m : Nat) : Nat := sumN (ctK W m) 12
theorem nI_a0 (a : Int32) : a + 0 = a := Int32.add_zero a
theorem kCt_4 {W : zW} {x : nz_S} (h : ∀ c, c < 12 → x.1 19 c = nI (W.2.1 c)) (h3 : ∀ c, W.2.1 c ≤ 3) (K : Int32 → Int32 → nz_S → Option (Int32 × nz_S)) : ∀ r j fu, j + r = 12 → r < fu → f_X5_countLoops_4 fu (nI (sumN (ctK W 1) j)) (nI j) x K = K (nI (cts W 1)) (nI 12) x
  | 0, j, fu + 1, e, _ => by
    have : j = 12 := by omega
    subst this
    rw [f_X5_countLoops_4, if_pos ge12]; rfl
  | r + 1, j, fu + 1, e, hf => by
    have hj : j < 12 := by omega
    have h3j := h3 j
    have ih := kCt_4 h h3 K r (j + 1) fu (by omega) (by omega)
    rw [sumN] at ih
    rw [f_X5_countLoops_4, if_neg (lt12 hj)]
    simp only [z_in hj (by omega), z_chk, z_N (show j < 2147483648 by omega), h j hj, nI_1, nI_a0]
    by_cases q : W.2.1 j = 0
    · rw [if_pos (by rw [q]; rfl)]
      rw [ctK_n (by omega), Nat.add_zero] at ih
      exact ih
    · rw [if_neg (by rw [show (0 : Int32) = nI 0 from rfl, z_eq (by omega) (by omega)]; exact q)]
      rw [ctK_y (by omega)] at ih
      exact ih
theorem kCt {W : zW} {x : nz_S} (h : ∀ c, c < 12 → x.1 19 c = nI (W.2.1 c)) (h3 : ∀ c, W.2.1 c ≤ 3) : f_X5_countLoops x = some (nI (cts W 1), x) := kCt_4 h h3 (fun u9 _ x8 => some (u9, x8)) 12 0 nz_F (by omega) (by unfold nz_F; omega)
theorem kCm_4 {W : zW} {x : nz_S} (h : ∀ c, c < 12 → x.1 19 c = nI (W.2.1 c)) (h3 : ∀ c, W.2.1 c ≤ 3) (K : Int32 → Int32 → nz_S → Option (Int32 × nz_S)) : ∀ r j fu, j + r = 12 → r < fu → f_X5_countManyEntered_4 fu (nI (sumN (ctK W 3) j)) (nI j) x K = K (nI (cts W 3)) (nI 12) x
  | 0, j, fu + 1, e, _ => by
    have : j = 12 := by omega
    subst this
    rw [f_X5_countManyEntered_4, if_pos ge12]; rfl
  | r + 1, j, fu + 1, e, hf => by
    have hj : j < 12 := by omega
    have h3j := h3 j
    have ih := kCm_4 h h3 K r (j + 1) fu (by omega) (by omega)
    rw [sumN] at ih
    rw [f_X5_countManyEntered_4, if_neg (lt12 hj)]
    simp only [z_in hj (by omega), z_chk, z_N (show j < 2147483648 by omega), h j hj, nI_1, nI_a0]
    by_cases q : W.2.1 j = 3
    · rw [if_pos (by rw [q]; rfl)]
      rw [ctK_y (by omega)] at ih
      exact ih
    · rw [if_neg (by rw [show (3 : Int32) = nI 3 from rfl, z_eq (by omega) (by omega)]; exact q)]
      rw [ctK_n (by omega), Nat.add_zero] at ih
      exact ih
theorem kCm {W : zW} {x : nz_S} (h : ∀ c, c < 12 → x.1 19 c = nI (W.2.1 c)) (h3 : ∀ c, W.2.1 c ≤ 3) : f_X5_countManyEntered x = some (nI (cts W 3), x) := kCm_4 h h3 (fun u9 _ x8 => some (u9, x8)) 12 0 nz_F (by omega) (by unfold nz_F; omega)
theorem zU.ty {D : zD} {p : Nat} {W : zW} (h : zU D p W) {c : Nat} (hc : W.2.1 c ≠ 0) : od D c = true := by
  obtain ⟨k, h1, -⟩ := h.2.2.2 c hc
  exact od_ex.mpr ⟨k, h1⟩
theorem zU.tn {D : zD} {p : Nat} {W : zW} (h : zU D p W) {c : Nat} (hc : D.2.1 c = none) : W.2.1 c = 0 := by
  by_cases q : W.2.1 c = 0
  · exact q
  · have := h.ty q
    rw [od_no.mpr hc] at this
    cases this
theorem zU.hn {D : zD} {p : Nat} {W : zW} (h : zU D p W) {c : Nat} (hc : D.2.1 c = none) : W.1 c = none := by
  cases e : W.1 c with
  | none => rfl
  | some k =>
    obtain ⟨kb, kh, h1, -⟩ := h.1 c k e
    rw [hc] at h1; cases h1
theorem zF.k {G : zG} {D : zD} (hV : zV G) (hF : zF G D) {c k : Nat} (h : D.2.1 c = some k) : k < 12 := by
  have := hV.1
  have := hF.I.le
  have := (hF.I.1 c k h).2.1
  omega
theorem mCt_4 {G : zG} {D : zD} {W : zW} (hV : zV G) (hF : zF G D) (hU : zU D 0 W) {m : Nat} (hm : 1 ≤ m ∧ m ≤ 3) {x : nz_S} (hw : mW x D) (hv : mV x W) (K : Int32 → Int32 → nz_S → Option (Int32 × nz_S)) : ∀ r j fu, j + r = 12 → r < fu → f_X8_kinds_4 (nI m) fu (nI (sumN (ctK W m) j)) (nI j) x K = K (nI (cts W m)) (nI 12) x
  | 0, j, fu + 1, e, _ => by
    have : j = 12 := by omega
    subst this
    rw [f_X8_kinds_4, if_pos ge12]; rfl
  | r + 1, j, fu + 1, e, hf => by
    have hj : j < 12 := by omega
    have h3j := hU.2.2.1 j
    have ih := mCt_4 hV hF hU hm hw hv K r (j + 1) fu (by omega) (by omega)
    rw [sumN] at ih
    rw [f_X8_kinds_4, if_neg (lt12 hj)]
    simp only [z_in hj (by omega), z_chk, z_N (show j < 2147483648 by omega), hw.2.1 j hj, hv.2.1 j hj, nI_1, nI_a0]
    cases ho : D.2.1 j with
    | none =>
      have h0 := hU.tn ho
      rw [oi_none, if_pos rfl]
      rw [ctK_n (by omega), Nat.add_zero] at ih
      exact ih
    | some k =>
      have hk := hF.k hV ho
      rw [oi_some, if_neg (z_m9 (by omega))]
      by_cases q : m ≤ W.2.1 j
      · rw [if_neg (by rw [z_lt (by omega) (by omega)]; omega)]
        rw [ctK_y q] at ih
        exact ih
      · rw [if_pos (by rw [z_lt (by omega) (by omega)]; omega)]
        rw [ctK_n q, Nat.add_zero] at ih
        exact ih
theorem mCt {G : zG} {D : zD} {W : zW} (hV : zV G) (hF : zF G D) (hU : zU D 0 W) {m : Nat} (hm : 1 ≤ m ∧ m ≤ 3) {x : nz_S} (hw : mW x D) (hv : mV x W) : f_X8_kinds (nI m) x = some (nI (cts W m), x) := mCt_4 hV hF hU hm hw hv (fun u13 _ x12 => some (u13, x12)) 12 0 nz_F (by omega) (by unfold nz_F; omega)
/-! ===== depth ===== -/
def hcN (H : Nat → Option Nat) : Nat → Option Nat → Nat
  | 0, _ => 0
  | _ + 1, none => 0
  | n + 1, some h => hcN H n (H h) + 1
theorem hcN_n (H : Nat → Option Nat) (n : Nat) : hcN H n none = 0 := by cases n <;> rfl
theorem hcN_le (H : Nat → Option Nat) : ∀ n o, hcN H n o ≤ n
  | 0, _ => Nat.le_refl 0
  | n + 1, none => Nat.zero_le _
  | n + 1, some h => by
    have := hcN_le H n (H h)
    show hcN H n (H h) + 1 ≤ n + 1
    omega
theorem kDep_25 {H : Nat → Option Nat} (hH : ∀ b h, H b = some h → h < 12) {x : nz_S} (hx : ∀ c, c < 12 → x.1 18 c = oi (H c)) : ∀ n i m fu (o : Option Nat), i + n = 12 → (∀ k, o = some k → k < 12) → n < fu → f_X5_depthOf_25 fu (nI m) (oi o) (nI i) x (fun u18 _ _ x17 => some (u18, x17)) = some (nI (m + hcN H n o), x)
  | 0, i, m, fu + 1, o, e, ho, _ => by
    have : i = 12 := by omega
    subst this
    rw [f_X5_depthOf_25, if_pos ge12]
    rfl
  | n + 1, i, m, fu + 1, none, e, ho, hf => by
    rw [f_X5_depthOf_25, if_neg (lt12 (by omega)), oi_none, if_pos rfl]
    rfl
  | n + 1, i, m, fu + 1, some k, e, ho, hf => by
    have hk := ho k rfl
    have ih := kDep_25 hH hx n (i + 1) (m + 1) fu (H k) (by omega) (fun j hj => hH k j hj) (by omega)
    rw [f_X5_depthOf_25, if_neg (lt12 (by omega)), oi_some, if_neg (z_m9 (by omega))]
    simp only [z_in hk (by omega), z_chk, z_N (show k < 2147483648 by omega), hx k hk, nI_1]
    rw [ih]
    show some (nI (m + 1 + hcN H n (H k)), x) = some (nI (m + (hcN H n (H k) + 1)), x)
    rw [show m + 1 + hcN H n (H k) = m + (hcN H n (H k) + 1) by omega]
def dpt (W : zW) (b : Nat) : Nat := (if W.2.1 b = 0 then 0 else 1) + hcN W.1 12 (W.1 b)
theorem dpt_le (W : zW) (b : Nat) : dpt W b ≤ 13 := by
  have := hcN_le W.1 12 (W.1 b)
  unfold dpt
  split <;> omega
theorem kDep {W : zW} (hH : ∀ b h, W.1 b = some h → h < 12) (h3 : ∀ c, W.2.1 c ≤ 3) {x : nz_S} (hx : kW x W) {b : Nat} (hb : b < 12) : f_X5_depthOf (nI b) x = some (nI (dpt W b), x) := by
  have h3b := h3 b
  unfold f_X5_depthOf
  simp only [z_in hb (by omega), z_chk, z_N (show b < 2147483648 by omega), hx.1 b hb, hx.2.1 b hb]
  by_cases q : W.2.1 b = 0
  · rw [if_pos (by rw [q]; rfl)]
    have := kDep_25 hH hx.1 12 0 0 nz_F (W.1 b) (by omega) (fun k hk => hH b k hk) (by unfold nz_F; omega)
    rw [nI_0] at this
    rw [this]
    unfold dpt
    rw [if_pos q]
  · rw [if_neg (by rw [show (0 : Int32) = nI 0 from rfl, z_eq (by omega) (by omega)]; exact q)]
    have := kDep_25 hH hx.1 12 0 1 nz_F (W.1 b) (by omega) (fun k hk => hH b k hk) (by unfold nz_F; omega)
    rw [nI_0] at this
    refine this.trans ?_
    unfold dpt
    rw [if_neg q]
theorem mDep_35 {H : Nat → Option Nat} (hH : ∀ b h, H b = some h → h < 12) {rk : Nat → Nat} (hr : ∀ b h, H b = some h → rk h < rk b) {x : nz_S} (hx : ∀ c, c < 12 → x.1 15 c = oi (H c)) : ∀ n m fu (o : Option Nat), (∀ k, o = some k → k < 12 ∧ rk k < n) → n < fu → f_X8_depth_35 fu (nI m) (oi o) x (fun u12 _ x11 => some (u12, x11)) = some (nI (m + hcN H n o), x)
  | 0, m, fu + 1, o, ho, _ => by
    cases o with
    | none => rw [f_X8_depth_35, oi_none, if_pos rfl]; rfl
    | some k => exact absurd (ho k rfl).2 (Nat.not_lt_zero _)
  | n + 1, m, fu + 1, o, ho, hf => by
    cases o with
    | none => rw [f_X8_depth_35, oi_none, if_pos rfl]; rfl
    | some k =>
      obtain ⟨hk, hk2⟩ := ho k rfl
      have ih := mDep_35 hH hr hx n (m + 1) fu (H k) (fun j hj => ⟨hH k j hj, by have := hr k j hj; omega⟩) (by omega)
      rw [f_X8_depth_35, oi_some, if_neg (z_m9 (by omega))]
      simp only [z_in hk (by omega), z_chk, z_N (show k < 2147483648 by omega), hx k hk, nI_1]
      rw [ih]
      show some (nI (m + 1 + hcN H n (H k)), x) = some (nI (m + (hcN H n (H k) + 1)), x)
      rw [show m + 1 + hcN H n (H k) = m + (hcN H n (H k) + 1) by omega]
theorem dpt_n {D : zD} {p : Nat} {W : zW} (hU : zU D p W) {b : Nat} (h : D.2.1 b = none) : dpt W b = 0 := by
  unfold dpt
  rw [if_pos (hU.tn h), hU.hn h, hcN_n]
theorem mDep {G : zG} {D : zD} {W : zW} (hV : zV G) (hF : zF G D) (hU : zU D 0 W) {x : nz_S} (hw : mW x D) (hv : mV x W) {b : Nat} (hb : b < 12) : f_X8_depth (nI b) x = some (nI (dpt W b), x) := by
  have h3b := hU.2.2.1 b
  unfold f_X8_depth
  simp only [z_in hb (by omega), z_chk, z_N (show b < 2147483648 by omega), hw.2.1 b hb, hv.1 b hb, hv.2.1 b hb]
  cases ho : D.2.1 b with
  | none => rw [oi_none, if_pos rfl, dpt_n hU ho]; rfl
  | some k =>
    have hk := hF.k hV ho
    rw [oi_some, if_neg (z_m9 (by omega))]
    have hb12 := rk_lt hV hF b
    have pre : ∀ j, W.1 b = some j → j < 12 ∧ rk D j < 12 := fun j hj => ⟨hU.lt hV hF b j hj, by have := hU.dk b j hj; omega⟩
    by_cases q : W.2.1 b = 0
    · rw [if_pos (by rw [q]; decide)]
      have := mDep_35 (rk := rk D) (fun b k e => hU.lt hV hF b k e) hU.dk hv.1 12 0 nz_F (W.1 b) pre (by unfold nz_F; omega)
      rw [nI_0] at this
      rw [this]
      unfold dpt
      rw [if_pos q]
    · rw [if_neg (by rw [show (0 : Int32) = nI 0 from rfl, z_le (by omega) (by omega)]; omega)]
      have := mDep_35 (rk := rk D) (fun b k e => hU.lt hV hF b k e) hU.dk hv.1 12 1 nz_F (W.1 b) pre (by unfold nz_F; omega)
      refine this.trans ?_
      unfold dpt
      rw [if_neg q]
def mxN (f : Nat → Nat) : Nat → Nat
  | 0 => 0
  | n + 1 => if mxN f n < f n then f n else mxN f n
theorem mxN_le {f : Nat → Nat} {c : Nat} (h : ∀ k, f k ≤ c) : ∀ n, mxN f n ≤ c
  | 0 => Nat.zero_le _
  | n + 1 => by
    have := mxN_le h n
    have := h n
    unfold mxN
    split <;> omega
theorem kDeep_4 {W : zW} (hH : ∀ b h, W.1 b = some h → h < 12) (h3 : ∀ c, W.2.1 c ≤ 3) {x : nz_S} (hx : kW x W) (K : Int32 → Int32 → nz_S → Option (Int32 × nz_S)) : ∀ r j fu, j + r = 12 → r < fu → f_X5_greatestDepth_4 fu (nI (mxN (dpt W) j)) (nI j) x K = K (nI (mxN (dpt W) 12)) (nI 12) x
  | 0, j, fu + 1, e, _ => by
    have : j = 12 := by omega
    subst this
    rw [f_X5_greatestDepth_4, if_pos ge12]
  | r + 1, j, fu + 1, e, hf => by
    have hj : j < 12 := by omega
    have ih := kDeep_4 hH h3 hx K r (j + 1) fu (by omega) (by omega)
    have h1 := dpt_le W j
    have h2 := mxN_le (dpt_le W) j
    rw [mxN] at ih
    rw [f_X5_greatestDepth_4, if_neg (lt12 hj), kDep hH h3 hx hj, z_bnd]
    simp only [nI_1, z_lt (show mxN (dpt W) j < 2147483648 by omega) (show dpt W j < 2147483648 by omega)]
    by_cases q : mxN (dpt W) j < dpt W j
    · rw [if_pos q] at ih ⊢; exact ih
    · rw [if_neg q] at ih ⊢; exact ih
theorem kDeep {W : zW} (hH : ∀ b h, W.1 b = some h → h < 12) (h3 : ∀ c, W.2.1 c ≤ 3) {x : nz_S} (hx : kW x W) : f_X5_greatestDepth x = some (nI (mxN (dpt W) 12), x) := kDeep_4 hH h3 hx (fun u8 _ x7 => some (u8, x7)) 12 0 nz_F (by omega) (by unfold nz_F; omega)
theorem mDeep_4 {G : zG} {D : zD} {W : zW} (hV : zV G) (hF : zF G D) (hU : zU D 0 W) {x : nz_S} (hw : mW x D) (hv : mV x W) (K : Int32 → Int32 → nz_S → Option (Int32 × nz_S)) : ∀ r j fu, j + r = 12 → r < fu → f_X8_deepest_4 fu (nI (mxN (dpt W) j)) (nI j) x K = K (nI (mxN (dpt W) 12)) (nI 12) x
  | 0, j, fu + 1, e, _ => by
    have : j = 12 := by omega
    subst this
    rw [f_X8_deepest_4, if_pos ge12]
  | r + 1, j, fu + 1, e, hf => by
    have hj : j < 12 := by omega
    have ih := mDeep_4 hV hF hU hw hv K r (j + 1) fu (by omega) (by omega)
    have h1 := dpt_le W j
    have h2 := mxN_le (dpt_le W) j
    rw [mxN] at ih
    rw [f_X8_deepest_4, if_neg (lt12 hj), mDep hV hF hU hw hv hj, z_bnd]
    simp only [nI_1, z_le (show dpt W j < 2147483648 by omega) (show mxN (dpt W) j < 2147483648 by omega)]
    by_cases q : mxN (dpt W) j < dpt W j
    · rw [if_pos q] at ih; rw [if_neg (by omega)]; exact ih
    · rw [if_neg q] at ih; rw [if_pos (by omega)]; exact ih
theorem mDeep {G : zG} {D : zD} {W : zW} (hV : zV G) (hF : zF G D) (hU : zU D 0 W) {x : nz_S} (hw : mW x D) (hv : mV x W) : f_X8_deepest x = some (nI (mxN (dpt W) 12), x) := mDeep_4 hV hF hU hw hv (fun u9 _ x8 => some (u9, x8)) 12 0 nz_F (by omega) (by unfold nz_F; omega)
/-! ===== the last many-entered ===== -/
def lmN (D : zD) (W : zW) : Nat → Option Nat
  | 0 => none
  | p + 1 => if W.2.1 (D.2.2.2 p) = 3 then some (D.2.2.2 p) else lmN D W p
def lme (D : zD) (W : zW) : Option Nat := lmN D W D.1
theorem kLast_7 {G : zG} {D : zD} {W : zW} (hV : zV G) (hF : zF G D) (h3 : ∀ c, W.2.1 c ≤ 3) {x : nz_S} (hs : sK x D) (h19 : ∀ c, c < 12 → x.1 19 c = nI (W.2.1 c)) : ∀ p fu, p ≤ D.1 → p < fu → f_X5_lastManyEntered_7 fu (nI p - 1) x (fun _ x9 => some (-9, x9)) = some (oi (lmN D W p), x)
  | 0, fu + 1, _, _ => by rw [f_X5_lastManyEntered_7, show nI 0 - 1 = (-1 : Int32) by decide, if_pos (by decide)]; rfl
  | p + 1, fu + 1, hp, hf => by
    have h12 := hV.1
    have hle := hF.I.le
    have hb := hF.I.at_lt (show p < D.1 by omega)
    have h3b := h3 (D.2.2.2 p)
    have ih := kLast_7 hV hF h3 hs h19 p fu (by omega) (by omega)
    rw [f_X5_lastManyEntered_7, nI_s1 p (by omega), if_neg (nI_pos (by omega))]
    simp only [z_in (show p < 12 by omega) (by omega), z_chk, z_N (show p < 2147483648 by omega), hs.2.2.1 p (by omega), z_in (show D.2.2.2 p < 12 by omega) (by omega), z_N (show D.2.2.2 p < 2147483648 by omega), h19 _ (show D.2.2.2 p < 12 by omega)]
    by_cases q : W.2.1 (D.2.2.2 p) = 3
    · rw [if_pos (by rw [q]; rfl), lmN, if_pos q]; rfl
    · rw [if_neg (by rw [show (3 : Int32) = nI 3 from rfl, z_eq (by omega) (by omega)]; exact q), lmN, if_neg q, sub1]
      exact ih
theorem kLast {G : zG} {D : zD} {W : zW} (hV : zV G) (hF : zF G D) (h3 : ∀ c, W.2.1 c ≤ 3) {x : nz_S} (hs : sK x D) (h19 : ∀ c, c < 12 → x.1 19 c = nI (W.2.1 c)) : f_X5_lastManyEntered x = some (oi (lme D W), x) := by
  have h12 := hV.1
  have hle := hF.I.le
  unfold f_X5_lastManyEntered
  rw [hs.1]
  exact kLast_7 hV hF h3 hs h19 D.1 nz_F (Nat.le_refl _) (by unfold nz_F; omega)
def wfS (D : zD) (j : Nat) : Option Nat → Option Nat
  | none => some j
  | some f => if rk D j ≤ rk D f then some f else some j
def wfN (D : zD) (W : zW) : Nat → Option Nat
  | 0 => none
  | j + 1 => if W.2.1 j = 3 then wfS D j (wfN D W j) else wfN D W j
/-- the best of a set -/
def bst (D : zD) (W : zW) (S : Nat → Prop) : Option Nat → Prop
  | none => ∀ b, S b → W.2.1 b ≠ 3
  | some f => S f ∧ W.2.1 f = 3 ∧ ∀ b, S b → W.2.1 b = 3 → rk D b ≤ rk D f
theorem bst_n {D : zD} {W : zW} {S : Nat → Prop} (h : bst D W S none) : ∀ b, S b → W.2.1 b ≠ 3 := h
theorem bst_s {D : zD} {W : zW} {S : Nat → Prop} {f : Nat} (h : bst D W S (some f)) : S f ∧ W.2.1 f = 3 ∧ ∀ b, S b → W.2.1 b = 3 → rk D b ≤ rk D f := h
theorem wfN_b (D : zD) (W : zW) : ∀ j, bst D W (fun b => b < j) (wfN D W j)
  | 0 => fun b hb => absurd hb (Nat.not_lt_zero b)
  | j + 1 => by
    have ih := wfN_b D W j
    rw [wfN]
    by_cases q : W.2.1 j = 3
    · rw [if_pos q]
      cases e : wfN D W j with
      | none =>
        rw [e] at ih
        refine ⟨by omega, q, fun b hb hq => ?_⟩
        by_cases hbj : b = j
        · rw [hbj]; exact Nat.le_refl _
        · exact absurd hq (ih b (show b < j by omega))
      | some f =>
        rw [e] at ih
        obtain ⟨i1, i2, i3⟩ := ih
        have i1 : f < j := i1
        show bst D W _ (if rk D j ≤ rk D f then some f else some j)
        by_cases c : rk D j ≤ rk D f
        · rw [if_pos c]
          refine ⟨by omega, i2, fun b hb hq => ?_⟩
          by_cases hbj : b = j
          · rw [hbj]; exact c
          · exact i3 b (show b < j by omega) hq
        · rw [if_neg c]
          refine ⟨by omega, q, fun b hb hq => ?_⟩
          by_cases hbj : b = j
          · rw [hbj]; exact Nat.le_refl _
          · have := i3 b (show b < j by omega) hq
            omega
    · rw [if_neg q]
      cases e : wfN D W j with
      | none =>
        rw [e] at ih
        intro b hb
        by_cases hbj : b = j
        · rw [hbj]; exact q
        · exact ih b (show b < j by omega)
      | some f =>
        rw [e] at ih
        obtain ⟨i1, i2, i3⟩ := ih
        have i1 : f < j := i1
        refine ⟨by omega, i2, fun b hb hq => ?_⟩
        by_cases hbj : b = j
        · rw [hbj] at hq; exact absurd hq q
        · exact i3 b (show b < j by omega) hq
theorem rk_v {D : zD} {b k : Nat} (h : D.2.1 b = some k) : rk D b = k := by unfold rk; rw [h]; rfl
theorem rk_at {G : zG} {D : zD} (hF : zF G D) {b : Nat} (h : od D b = true) : D.2.1 b = some (rk D b) ∧ rk D b < D.1 ∧ D.2.2.2 (rk D b) = b := by
  obtain ⟨k, hk⟩ := od_ex.mp h
  rw [rk_v hk]
  exact ⟨hk, (hF.I.1 b k hk).2.1, (hF.I.1 b k hk).2.2⟩
theorem lmN_b {G : zG} {D : zD} (hF : zF G D) (W : zW) : ∀ p, p ≤ D.1 → bst D W (fun b => od D b = true ∧ rk D b < p) (lmN D W p)
  | 0, _ => fun b hb => absurd hb.2 (Nat.not_lt_zero _)
  | p + 1, hp => by
    have ih := lmN_b hF W p (by omega)
    have hw := hF.I.2 p (show p < D.1 by omega)
    have ho : od D (D.2.2.2 p) = true := od_ex.mpr ⟨p, hw⟩
    have hr : rk D (D.2.2.2 p) = p := rk_v hw
    rw [lmN]
    by_cases q : W.2.1 (D.2.2.2 p) = 3
    · rw [if_pos q]
      refine ⟨⟨ho, by omega⟩, q, fun b hb _ => ?_⟩
      have := hb.2
      omega
    · rw [if_neg q]
      have key : ∀ b, od D b = true ∧ rk D b < p + 1 → W.2.1 b = 3 → od D b = true ∧ rk D b < p := by
        intro b hb hq
        refine ⟨hb.1, ?_⟩
        by_cases hr2 : rk D b = p
        · have := (rk_at hF hb.1).2.2
          rw [hr2] at this
          rw [this] at q
          exact absurd hq q
        · have := hb.2
          omega
      cases e : lmN D W p with
      | none =>
        rw [e] at ih
        exact fun b hb hq => ih b (key b hb hq) hq
      | some f =>
        rw [e] at ih
        obtain ⟨i1, i2, i3⟩ := ih
        exact ⟨⟨i1.1, by have := i1.2; omega⟩, i2, fun b hb hq => i3 b (key b hb hq) hq⟩
theorem wf_lm {G : zG} {D : zD} {W : zW} (hV : zV G) (hF : zF G D) (hU : zU D 0 W) : wfN D W 12 = lme D W := by
  have h12 := hV.1
  have h1 := wfN_b D W 12
  have h2 := lmN_b hF W D.1 (Nat.le_refl _)
  have to2 : ∀ b, W.2.1 b = 3 → od D b = true ∧ rk D b < D.1 := fun b hb => by
    have := hU.ty (c := b) (by omega)
    exact ⟨this, (rk_at hF this).2.1⟩
  have to1 : ∀ b, W.2.1 b = 3 → b < 12 := fun b hb => by
    have := hF.lt (to2 b hb).1
    omega
  unfold lme
  cases e1 : wfN D W 12 with
  | none =>
    rw [e1] at h1
    cases e2 : lmN D W D.1 with
    | none => rfl
    | some g =>
      rw [e2] at h2
      obtain ⟨i1, i2, i3⟩ := h2
      exact absurd i2 (h1 g (to1 g i2))
  | some f =>
    rw [e1] at h1
    obtain ⟨j1, j2, j3⟩ := h1
    cases e2 : lmN D W D.1 with
    | none =>
      rw [e2] at h2
      exact absurd j2 (h2 f (to2 f j2))
    | some g =>
      rw [e2] at h2
      obtain ⟨i1, i2, i3⟩ := h2
      have a := j3 g (to1 g i2) i2
      have b := i3 f (to2 f j2) j2
      have hf := (rk_at hF (to2 f j2).1).2.2
      have hg := (rk_at hF i1.1).2.2
      have : rk D f = rk D g := by omega
      rw [this, hg] at hf
      rw [hf]
theorem mWst_5 {G : zG} {D : zD} {W : zW} (hV : zV G) (hF : zF G D) (hU : zU D 0 W) {x : nz_S} (hw : mW x D) (hv : mV x W) (K : Int32 → Int32 → nz_S → Option (Int32 × nz_S)) : ∀ r j fu, j + r = 12 → r < fu → f_X8_worst_5 fu (oi (wfN D W j)) (nI j) x K = K (oi (wfN D W 12)) (nI 12) x
  | 0, j, fu + 1, e, _ => by
    have : j = 12 := by omega
    subst this
    rw [f_X8_worst_5, if_pos ge12]
  | r + 1, j, fu + 1, e, hf => by
    have hj : j < 12 := by omega
    have h3j := hU.2.2.1 j
    have ih := mWst_5 hV hF hU hw hv K r (j + 1) fu (by omega) (by omega)
    rw [wfN] at ih
    have hb := wfN_b D W j
    rw [f_X8_worst_5, if_neg (lt12 hj)]
    simp only [z_in hj (by omega), z_chk, z_N (show j < 2147483648 by omega), hw.2.1 j hj, hv.2.1 j hj, nI_1]
    cases ho : D.2.1 j with
    | none =>
      have h0 := hU.tn ho
      rw [oi_none, if_pos rfl]
      rw [if_neg (by omega)] at ih
      exact ih
    | some k =>
      have hk := hF.k hV ho
      rw [oi_some, if_neg (z_m9 (by omega))]
      by_cases q : W.2.1 j = 3
      · rw [if_pos (by rw [q]; rfl)]
        rw [if_pos q] at ih
        cases ef : wfN D W j with
        | none =>
          rw [ef] at ih
          rw [oi_none, if_pos rfl]
          exact ih
        | some f =>
          rw [ef] at ih hb
          obtain ⟨b1, b2, b3⟩ := hb
          have b1 : f < j := b1
          obtain ⟨kf, hkf⟩ := od_ex.mp (hU.ty (c := f) (by omega))
          have hkf2 := hF.k hV hkf
          rw [oi_some, if_neg (z_m9 (by omega))]
          simp only [z_in (show f < 12 by omega) (by omega), z_chk, z_N (show f < 2147483648 by omega), hw.2.1 f (by omega), hkf, oi_some]
          have ih : f_X8_worst_5 fu (oi (if rk D j ≤ rk D f then some f else some j)) (nI (j + 1)) x K = K (oi (wfN D W 12)) (nI 12) x := ih
          rw [rk_v ho, rk_v hkf] at ih
          by_cases c : k ≤ kf
          · rw [if_pos c] at ih
            rw [if_pos ((z_le (by omega) (by omega)).mpr c)]
            exact ih
          · rw [if_neg c] at ih
            rw [if_neg (by rw [z_le (by omega) (by omega)]; exact c)]
            exact ih
      · rw [if_neg (by rw [show (3 : Int32) = nI 3 from rfl, z_eq (by omega) (by omega)]; exact q)]
        rw [if_neg q] at ih
        exact ih
theorem mWst {G : zG} {D : zD} {W : zW} (hV : zV G) (hF : zF G D) (hU : zU D 0 W) {x : nz_S} (hw : mW x D) (hv : mV x W) : f_X8_worst x = some (oi (lme D W), x) := by
  have := mWst_5 hV hF hU hw hv (fun u21 _ x20 => some (u21, x20)) 12 0 nz_F (by omega) (by unfold nz_F; omega)
  rw [wf_lm hV hF hU] at this
  exact this
