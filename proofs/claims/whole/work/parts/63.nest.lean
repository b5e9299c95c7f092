/-! ===== the nest ===== -/
def inN (H : Nat → Option Nat) (w : Nat) : Nat → Nat → Bool
  | 0, v => decide (v = w)
  | n + 1, v => decide (v = w) || (match H v with | none => false | some h => inN H w n h)
theorem inN_w (H : Nat → Option Nat) (w : Nat) : ∀ n, inN H w n w = true
  | 0 => by simp [inN]
  | n + 1 => by simp [inN]
theorem inN_s {H : Nat → Option Nat} {w n v h : Nat} (e : H v = some h) (hv : v ≠ w) : inN H w (n + 1) v = inN H w n h := by
  rw [inN, e, decide_eq_false hv, Bool.false_or]
theorem inN_n {H : Nat → Option Nat} {w v : Nat} (e : H v = none) (hv : v ≠ w) : ∀ n, inN H w n v = false
  | 0 => by rw [inN]; exact decide_eq_false hv
  | n + 1 => by rw [inN, e, decide_eq_false hv]; rfl
theorem inN_up {H : Nat → Option Nat} {w : Nat} {rk : Nat → Nat} (hr : ∀ b h, H b = some h → rk h < rk b) : ∀ n v, rk v ≤ n → inN H w (n + 1) v = inN H w n v
  | 0, v, h => by
    by_cases q : v = w
    · rw [q, inN_w, inN_w]
    · cases e : H v with
      | none => rw [inN_n e q, inN_n e q]
      | some k => have := hr v k e; omega
  | n + 1, v, h => by
    by_cases q : v = w
    · rw [q, inN_w, inN_w]
    · cases e : H v with
      | none => rw [inN_n e q, inN_n e q]
      | some k =>
        have := hr v k e
        rw [inN_s e q, inN_s e q, inN_up hr n k (by omega)]
def nst (W : zW) (w v : Nat) : Bool := inN W.1 w 12 v
theorem nst_w (W : zW) (w : Nat) : nst W w w = true := inN_w _ _ _
theorem nst_n {W : zW} {w v : Nat} (e : W.1 v = none) : nst W w v = decide (v = w) := by
  by_cases q : v = w
  · rw [q, nst_w, decide_eq_true rfl]
  · rw [decide_eq_false q]; exact inN_n e q 12
theorem nst_s {G : zG} {D : zD} {W : zW} (hV : zV G) (hF : zF G D) (hU : zU D 0 W) {w v h : Nat} (e : W.1 v = some h) : nst W w v = (decide (v = w) || nst W w h) := by
  by_cases q : v = w
  · rw [q, nst_w, decide_eq_true rfl]; rfl
  · have h1 := rk_lt hV hF v
    have h2 := hU.dk v h e
    rw [decide_eq_false q, Bool.false_or]
    show inN W.1 w (11 + 1) v = inN W.1 w (11 + 1) h
    rw [inN_s e q, inN_up (rk := rk D) hU.dk 11 h (by omega)]
def nsS (D : zD) (W : zW) (w p v : Nat) : Bool := decide (v = w) || (od D v && decide (rk D v < p) && nst W w v)
theorem nsS_s {G : zG} {D : zD} (hF : zF G D) (W : zW) (w : Nat) {p : Nat} (hp : p < D.1) (v : Nat) : nsS D W w (p + 1) v = (nsS D W w p v || (decide (v = D.2.2.2 p) && nst W w (D.2.2.2 p))) := by
  have hw := hF.I.2 p hp
  have ho : od D (D.2.2.2 p) = true := od_ex.mpr ⟨p, hw⟩
  have hr : rk D (D.2.2.2 p) = p := rk_v hw
  unfold nsS
  by_cases q : v = D.2.2.2 p
  · rw [q, ho, hr, decide_eq_true (show p < p + 1 by omega), decide_eq_false (show ¬ p < p by omega), decide_eq_true (show D.2.2.2 p = D.2.2.2 p from rfl)]
    simp
  · rw [decide_eq_false q]
    cases hv : od D v with
    | false => simp
    | true =>
      have hne : rk D v ≠ p := by
        intro e
        have := (rk_at hF hv).2.2
        rw [e] at this
        exact q this.symm
      by_cases c : rk D v < p
      · rw [decide_eq_true c, decide_eq_true (show rk D v < p + 1 by omega)]; simp
      · rw [decide_eq_false c, decide_eq_false (show ¬ rk D v < p + 1 by omega)]; simp
theorem kNest_6 {G : zG} {D : zD} {W : zW} (hV : zV G) (hF : zF G D) (hU : zU D 0 W) {x : nz_S} (hs : sK x D) (h18 : ∀ c, c < 12 → x.1 18 c = oi (W.1 c)) {w : Nat} (K : Int32 → Int32 → nz_S → Option (Int32 × nz_S)) : ∀ r p fu, p + r = D.1 → r < fu → f_X5_nestOf_6 fu (bm (nsS D W w p)) (nI p) x K = K (bm (nsS D W w D.1)) (nI D.1) x
  | 0, p, fu + 1, e, _ => by
    have h12 := hV.1
    have hle := hF.I.le
    have : p = D.1 := by omega
    subst this
    rw [f_X5_nestOf_6, hs.1, if_pos ((z_le (by omega) (by omega)).mpr (Nat.le_refl _))]
  | r + 1, p, fu + 1, e, hf => by
    have h12 := hV.1
    have hle := hF.I.le
    have hp : p < D.1 := by omega
    have hb := hF.I.at_lt hp
    have hw := hF.I.2 p hp
    have ih := kNest_6 hV hF hU hs h18 (w := w) K r (p + 1) fu (by omega) (by omega)
    have hno : nst W w (D.2.2.2 p) = false ∨ D.2.2.2 p = w → bm (nsS D W w p) = bm (nsS D W w (p + 1)) := by
      intro h
      refine bm_ext (fun v _ => ?_)
      rw [nsS_s hF W w hp v]
      rcases h with h | h
      · rw [h, Bool.and_false, Bool.or_false]
      · by_cases q : v = w
        · unfold nsS; rw [decide_eq_true q]; rfl
        · rw [decide_eq_false (show ¬ v = D.2.2.2 p by rw [h]; exact q), Bool.false_and, Bool.or_false]
    rw [f_X5_nestOf_6, hs.1, if_neg (by rw [z_le (by omega) (by omega)]; omega)]
    simp only [z_in (show p < 12 by omega) (by omega), z_chk, z_N (show p < 2147483648 by omega), hs.2.2.1 p hp, z_in (show D.2.2.2 p < 12 by omega) (by omega), z_N (show D.2.2.2 p < 2147483648 by omega), h18 _ (show D.2.2.2 p < 12 by omega), nI_1]
    cases eh : W.1 (D.2.2.2 p) with
    | none =>
      rw [oi_none, if_pos rfl]
      have : nst W w (D.2.2.2 p) = false ∨ D.2.2.2 p = w := by
        by_cases q : D.2.2.2 p = w
        · exact Or.inr q
        · exact Or.inl (by rw [nst_n eh]; exact decide_eq_false q)
      rw [hno this]
      exact ih
    | some h =>
      have hh := hU.lt hV hF _ h eh
      have hd := hU.dk _ h eh
      rw [rk_v hw] at hd
      obtain ⟨kb, kh, g1, g2, g3, g4⟩ := hU.1 _ h eh
      have hSh : nsS D W w p h = nst W w h := by
        unfold nsS
        rw [od_ex.mpr ⟨kh, g2⟩, decide_eq_true hd]
        by_cases q : h = w
        · rw [q, nst_w, decide_eq_true rfl]; rfl
        · rw [decide_eq_false q]; simp
      rw [oi_some, if_neg (z_m9 (by omega))]
      simp only [bit_bm0 (nsS D W w p) hh, hSh]
      have hb2 := nst_s hV hF hU (w := w) eh
      cases eq : nst W w h with
      | false =>
        rw [if_pos rfl]
        rw [eq, Bool.or_false] at hb2
        have : nst W w (D.2.2.2 p) = false ∨ D.2.2.2 p = w := by
          by_cases q : D.2.2.2 p = w
          · exact Or.inr q
          · exact Or.inl (by rw [hb2]; exact decide_eq_false q)
        rw [hno this]
        exact ih
      | true =>
        rw [if_neg (by decide)]
        rw [eq, Bool.or_true] at hb2
        have : bm (nsS D W w p) ||| ((1 : Int32) <<< (nI (D.2.2.2 p) &&& 31)) = bm (nsS D W w (p + 1)) := by
          rw [bm_one _ (by omega), bm_or]
          refine bm_ext (fun v _ => ?_)
          rw [nsS_s hF W w hp v, hb2, Bool.and_true]
        rw [this]
        exact ih
theorem kNest {G : zG} {D : zD} {W : zW} (hV : zV G) (hF : zF G D) (hU : zU D 0 W) {x : nz_S} (hs : sK x D) (h18 : ∀ c, c < 12 → x.1 18 c = oi (W.1 c)) {w : Nat} (hw : w < 12) : f_X5_nestOf (nI w) x = some (bm (nst W w), x) := by
  have h12 := hV.1
  have hle := hF.I.le
  have := kNest_6 hV hF hU hs h18 (w := w) (fun u15 _ x14 => some (u15, x14)) D.1 0 nz_F (by omega) (by unfold nz_F; omega)
  have e0 : bm (nsS D W w 0) = (1 : Int32) <<< (nI w &&& 31) := by
    rw [bm_one w hw]
    exact bm_ext (fun v _ => by unfold nsS; rw [decide_eq_false (Nat.not_lt_zero _)]; simp)
  have e1 : bm (nsS D W w D.1) = bm (nst W w) := by
    refine bm_ext (fun v _ => ?_)
    unfold nsS
    by_cases q : v = w
    · rw [q, nst_w, decide_eq_true rfl]; rfl
    · rw [decide_eq_false q, Bool.false_or]
      cases hv : D.2.1 v with
      | none =>
        rw [nst_n (hU.hn hv), decide_eq_false q, Bool.and_false]
      | some k =>
        have ho : od D v = true := od_ex.mpr ⟨k, hv⟩
        rw [ho, decide_eq_true (rk_at hF ho).2.1]; simp
  rw [e0, e1, nI_0] at this
  exact this
/-! in the reference -/
def nhB (H : Nat → Option Nat) (S : Nat → Bool) (j : Nat) : Bool := match H j with | none => false | some h => S h
theorem nhB_n {H : Nat → Option Nat} {S : Nat → Bool} {j : Nat} (e : H j = none) : nhB H S j = false := by unfold nhB; rw [e]
theorem nhB_s {H : Nat → Option Nat} {S : Nat → Bool} {j h : Nat} (e : H j = some h) : nhB H S j = S h := by unfold nhB; rw [e]
def nP (H : Nat → Option Nat) (S : Nat → Bool) : Nat → Nat → Bool
  | 0 => S
  | j + 1 => fun v => nP H S j v || (decide (v = j) && nhB H (nP H S j) j)
theorem nP_s (H : Nat → Option Nat) (S : Nat → Bool) (j v : Nat) : nP H S (j + 1) v = (nP H S j v || (decide (v = j) && nhB H (nP H S j) j)) := by rw [nP]
theorem nP_mono (H : Nat → Option Nat) (S : Nat → Bool) {v : Nat} {j : Nat} (h : nP H S j v = true) : ∀ n, nP H S (j + n) v = true
  | 0 => h
  | n + 1 => by
    show nP H S ((j + n) + 1) v = true
    rw [nP_s, nP_mono H S h n]; rfl
def nT (H : Nat → Option Nat) : Nat → (Nat → Bool) → Nat → Bool
  | 0, S => S
  | t + 1, S => nT H t (nP H S 12)
theorem mNest_15 {H : Nat → Option Nat} (hH : ∀ b h, H b = some h → h < 12) {x : nz_S} (hx : ∀ c, c < 12 → x.1 15 c = oi (H c)) (c3 : Int32) (S : Nat → Bool) (K : Int32 → Int32 → nz_S → Option (Int32 × nz_S)) : ∀ r j fu, j + r = 12 → r < fu → f_X8_nest_15 c3 fu (bm (nP H S j)) (nI j) x K = K (bm (nP H S 12)) (nI 12) x
  | 0, j, fu + 1, e, _ => by
    have : j = 12 := by omega
    subst this
    rw [f_X8_nest_15, if_pos ge12]
  | r + 1, j, fu + 1, e, hf => by
    have hj : j < 12 := by omega
    have ih := mNest_15 hH hx c3 S K r (j + 1) fu (by omega) (by omega)
    have hno : nhB H (nP H S j) j = false → bm (nP H S j) ||| 0 = bm (nP H S (j + 1)) := fun h => by
      rw [bm_or0]
      exact bm_ext (fun v _ => by rw [nP_s, h, Bool.and_false, Bool.or_false])
    have hyes : nhB H (nP H S j) j = true → bm (nP H S j) ||| ((1 : Int32) <<< (nI j &&& 31)) = bm (nP H S (j + 1)) := fun h => by
      rw [bm_one j hj, bm_or]
      exact bm_ext (fun v _ => by rw [nP_s, h, Bool.and_true])
    rw [f_X8_nest_15, if_neg (lt12 hj)]
    simp only [z_in hj (by omega), z_chk, z_N (show j < 2147483648 by omega), hx j hj, nI_1]
    cases eh : H j with
    | none =>
      rw [oi_none, if_pos rfl, hno (nhB_n eh)]
      exact ih
    | some h =>
      have hh := hH j h eh
      rw [oi_some, if_neg (z_m9 (by omega)), mHas _ hh, z_bnd]
      cases eq : nP H S j h with
      | false =>
        simp only [Bool.false_eq_true, if_false, if_true]
        rw [hno (by rw [nhB_s eh]; exact eq)]
        exact ih
      | true =>
        simp only [if_true, one0, if_false]
        rw [hyes (by rw [nhB_s eh]; exact eq)]
        exact ih
theorem mNest_6 {H : Nat → Option Nat} (hH : ∀ b h, H b = some h → h < 12) {x : nz_S} (hx : ∀ c, c < 12 → x.1 15 c = oi (H c)) (K : Int32 → Int32 → nz_S → Option (Int32 × nz_S)) : ∀ n i fu (S : Nat → Bool), i + n = 12 → n < fu → f_X8_nest_6 fu (bm S) (nI i) x K = K (bm (nT H n S)) (nI 12) x
  | 0, i, fu + 1, S, e, _ => by
    have : i = 12 := by omega
    subst this
    rw [f_X8_nest_6, if_pos ge12]; rfl
  | n + 1, i, fu + 1, S, e, hf => by
    have ih := mNest_6 hH hx K n (i + 1) fu (nP H S 12) (by omega) (by omega)
    rw [f_X8_nest_6, if_neg (lt12 (by omega))]
    have := mNest_15 hH hx (nI i) S (fun u18 _ x17 => f_X8_nest_6 fu u18 (nI i + 1) x17 K) 12 0 nz_F (by omega) (by unfold nz_F; omega)
    rw [nI_0] at this
    refine this.trans ?_
    rw [nI_1]
    exact ih
theorem nP_sub {H : Nat → Option Nat} {S : Nat → Bool} (B : Nat → Prop) (hB : ∀ v h, H v = some h → B h → B v) (h : ∀ v, S v = true → B v) : ∀ j v, nP H S j v = true → B v
  | 0, v, e => h v e
  | j + 1, v, e => by
    rw [nP_s, Bool.or_eq_true, Bool.and_eq_true, decide_eq_true_iff] at e
    rcases e with e | ⟨e1, e2⟩
    · exact nP_sub B hB h j v e
    · cases eh : H j with
      | none => rw [nhB_n eh] at e2; cases e2
      | some k =>
        rw [nhB_s eh] at e2
        rw [e1]
        exact hB j k eh (nP_sub B hB h j k e2)
theorem nT_sub {H : Nat → Option Nat} (B : Nat → Prop) (hB : ∀ v h, H v = some h → B h → B v) : ∀ n (S : Nat → Bool), (∀ v, S v = true → B v) → ∀ v, nT H n S v = true → B v
  | 0, S, h, v, e => h v e
  | n + 1, S, h, v, e => nT_sub B hB n _ (nP_sub B hB h 12) v e
theorem nT_sup {H : Nat → Option Nat} (hH : ∀ b h, H b = some h → h < 12) {w : Nat} : ∀ n t (S : Nat → Bool), (∀ v, v < 12 → inN H w t v = true → S v = true) → ∀ v, v < 12 → inN H w (t + n) v = true → nT H n S v = true
  | 0, t, S, h, v, hv, e => h v hv e
  | n + 1, t, S, h, v, hv, e => by
    refine nT_sup hH n (t + 1) (nP H S 12) (fun u hu eu => ?_) v hv (by rw [show t + 1 + n = t + (n + 1) by omega]; exact e)
    by_cases q : u = w
    · have h0 : S u = true := h u hu (by rw [q]; exact inN_w _ _ _)
      have := nP_mono H S (v := u) (j := 0) h0 12
      rw [Nat.zero_add] at this
      exact this
    · cases eh : H u with
      | none => rw [inN_n eh q] at eu; cases eu
      | some k =>
        rw [inN_s eh q] at eu
        have hk := hH u k eh
        have h0 : S k = true := h k hk eu
        have h1 := nP_mono H S (v := k) (j := 0) h0 u
        rw [Nat.zero_add] at h1
        have h2 : nP H S (u + 1) u = true := by rw [nP_s, nhB_s eh, h1, decide_eq_true rfl]; simp
        have := nP_mono H S h2 (11 - u)
        rw [show u + 1 + (11 - u) = 12 by omega] at this
        exact this
theorem mNest {G : zG} {D : zD} {W : zW} (hV : zV G) (hF : zF G D) (hU : zU D 0 W) {x : nz_S} (hv : mV x W) {w : Nat} (hw : w < 12) : f_X8_nest (nI w) x = some (bm (nst W w), x) := by
  have hH : ∀ b h, W.1 b = some h → h < 12 := fun b h e => hU.lt hV hF b h e
  have := mNest_6 hH hv.1 (fun u22 _ x21 => some (u22, x21)) 12 0 nz_F (fun v => decide (v = w)) (by omega) (by unfold nz_F; omega)
  rw [nI_0, ← bm_one w hw] at this
  refine this.trans ?_
  have : bm (nT W.1 12 (fun v => decide (v = w))) = bm (nst W w) := by
    refine bm_ext (fun v hv12 => ?_)
    rw [Bool.eq_iff_iff]
    constructor
    · refine nT_sub (fun v => nst W w v = true) (fun v h e hb => ?_) 12 _ (fun v e => ?_) v
      · rw [nst_s hV hF hU e, hb, Bool.or_true]
      · rw [decide_eq_true_iff.mp e]; exact nst_w W w
    · intro e
      refine nT_sup hH (w := w) 12 0 _ (fun u hu eu => eu) v hv12 ?_
      rw [Nat.zero_add]; exact e
  rw [this]
/-! ===== which it is above ===== -/
theorem mAbs_4 {G : zG} {D : zD} (hV : zV G) (hF : zF G D) {x : nz_S} (hw : mW x D) {w : Nat} (hw2 : w < 12) (K : Int32 → Int32 → nz_S → Option (Int32 × nz_S)) : ∀ r k fu, k + r = 12 → r < fu → f_X8_aboveSet_4 (nI w) fu (bm (pf (abv D w) k)) (nI k) x K = K (bm (abv D w)) (nI 12) x
  | 0, k, fu + 1, e, _ => by
    have : k = 12 := by omega
    subst this
    rw [f_X8_aboveSet_4, if_pos ge12, pf_n (fun y hy _ => hy)]
  | r + 1, k, fu + 1, e, hf => by
    have hk : k < 12 := by omega
    have ih := mAbs_4 hV hF hw hw2 K r (k + 1) fu (by omega) (by omega)
    rw [f_X8_aboveSet_4, if_neg (lt12 hk), mAbv hV hw hF hw2 hk, z_bnd]
    simp only [nI_1]
    cases q : abv D w k with
    | false =>
      simp only [Bool.false_eq_true, if_false, if_true]
      rw [pf_no0 q]
      exact ih
    | true =>
      simp only [if_true, one0, if_false]
      rw [pf_yes q hk]
      exact ih
theorem mAbs {G : zG} {D : zD} (hV : zV G) (hF : zF G D) {x : nz_S} (hw : mW x D) {w : Nat} (hw2 : w < 12) : f_X8_aboveSet (nI w) x = some (bm (abv D w), x) := by
  have := mAbs_4 hV hF hw hw2 (fun u11 _ x10 => some (u11, x10)) 12 0 nz_F (by omega) (by unfold nz_F; omega)
  rw [pf_0, nI_0] at this
  exact this
