/-! ===== leaders ===== -/
abbrev zW : Type := (Nat → Option Nat) × (Nat → Nat) × (Nat → Nat → Bool)
abbrev zB : Type := (Nat → Bool) × (Nat → Bool) × (Nat → Bool) × Nat
def ldrN (H : Nat → Option Nat) : Nat → Nat → Nat
  | 0, b => b
  | n + 1, b => match H b with
    | none => b
    | some h => ldrN H n h
def ldr (H : Nat → Option Nat) (b : Nat) : Nat := ldrN H 12 b
theorem ldrN_n {H : Nat → Option Nat} {n b : Nat} (h : H b = none) : ldrN H (n + 1) b = b := by rw [ldrN, h]
theorem ldrN_s {H : Nat → Option Nat} {n b k : Nat} (h : H b = some k) : ldrN H (n + 1) b = ldrN H n k := by rw [ldrN, h]
theorem ldrN_lt {H : Nat → Option Nat} (hH : ∀ b h, H b = some h → h < 12) : ∀ n b, b < 12 → ldrN H n b < 12
  | 0, b, hb => hb
  | n + 1, b, hb => by
    cases h : H b with
    | none => rw [ldrN_n h]; exact hb
    | some k => rw [ldrN_s h]; exact ldrN_lt hH n k (hH b k h)
theorem kLdr_4 {H : Nat → Option Nat} (hH : ∀ b h, H b = some h → h < 12) {x : nz_S} (hx : ∀ c, c < 12 → x.1 18 c = oi (H c)) : ∀ n i b fu, i + n = 12 → b < 12 → n < fu → f_X5_leaderOf_4 fu (nI b) (nI i) x (fun u8 _ x7 => some (u8, x7)) = some (nI (ldrN H n b), x)
  | 0, i, b, fu + 1, e, hb, _ => by
    have : i = 12 := by omega
    subst this
    rw [f_X5_leaderOf_4, if_pos ge12]; rfl
  | n + 1, i, b, fu + 1, e, hb, hf => by
    rw [f_X5_leaderOf_4, if_neg (lt12 (by omega))]
    simp only [z_in hb (by omega), z_chk, z_N (show b < 2147483648 by omega), hx b hb]
    cases h : H b with
    | none => rw [oi_none, if_pos rfl, ldrN_n h]
    | some k =>
      have hk := hH b k h
      rw [oi_some, if_neg (z_m9 (by omega)), ldrN_s h]
      simp only [nI_1]
      exact kLdr_4 hH hx n (i + 1) k fu (by omega) hk (by omega)
theorem kLdr {H : Nat → Option Nat} (hH : ∀ b h, H b = some h → h < 12) {x : nz_S} (hx : ∀ c, c < 12 → x.1 18 c = oi (H c)) {b : Nat} (hb : b < 12) : f_X5_leaderOf (nI b) x = some (nI (ldr H b), x) := by
  have := kLdr_4 hH hx 12 0 b nz_F (by omega) hb (by unfold nz_F; omega)
  rw [nI_0] at this
  exact this
theorem mLdr_2 {H : Nat → Option Nat} (hH : ∀ b h, H b = some h → h < 12) {rk : Nat → Nat} (hr : ∀ b h, H b = some h → rk h < rk b) {x : nz_S} (hx : ∀ c, c < 12 → x.1 15 c = oi (H c)) (K : Int32 → nz_S → Option (Int32 × nz_S)) : ∀ n b fu, rk b ≤ n → b < 12 → n < fu → f_X8_leader_2 fu (nI b) x K = K (nI (ldrN H n b)) x
  | 0, b, fu + 1, e, hb, _ => by
    have h : H b = none := by
      cases h : H b with
      | none => rfl
      | some k => have := hr b k h; omega
    rw [f_X8_leader_2]
    simp only [z_in hb (by omega), z_chk, z_N (show b < 2147483648 by omega), hx b hb]
    rw [h, oi_none, if_pos rfl]; rfl
  | n + 1, b, fu + 1, e, hb, hf => by
    rw [f_X8_leader_2]
    simp only [z_in hb (by omega), z_chk, z_N (show b < 2147483648 by omega), hx b hb]
    cases h : H b with
    | none => rw [oi_none, if_pos rfl, ldrN_n h]
    | some k =>
      have hk := hH b k h
      have hk2 := hr b k h
      rw [oi_some, if_neg (z_m9 (by omega)), ldrN_s h]
      exact mLdr_2 hH hr hx K n k fu (by omega) hk (by omega)
theorem mLdr {H : Nat → Option Nat} (hH : ∀ b h, H b = some h → h < 12) {rk : Nat → Nat} (hr : ∀ b h, H b = some h → rk h < rk b) {x : nz_S} (hx : ∀ c, c < 12 → x.1 15 c = oi (H c)) {b : Nat} (hb : b < 12) (h12 : rk b ≤ 12) : f_X8_leader (nI b) x = some (nI (ldr H b), x) :=
  mLdr_2 hH hr hx (fun u6 x5 => some (u6, x5)) 12 b nz_F h12 hb (by unfold nz_F; omega)
def lds (H : Nat → Option Nat) (S : Nat → Bool) : Nat → Nat → Bool
  | 0, _ => false
  | n + 1, v => lds H S n v || (S n && decide (v = ldr H n))
theorem lds_ex (H : Nat → Option Nat) (S : Nat → Bool) (v : Nat) : ∀ n, lds H S n v = true ↔ ∃ y, y < n ∧ S y = true ∧ v = ldr H y
  | 0 => by simp [lds]
  | n + 1 => by
    rw [lds, Bool.or_eq_true, lds_ex H S v n, Bool.and_eq_true, decide_eq_true_iff]
    constructor
    · rintro (⟨y, h1, h2⟩ | h)
      · exact ⟨y, by omega, h2⟩
      · exact ⟨n, by omega, h⟩
    · rintro ⟨y, h1, h2⟩
      by_cases hy : y = n
      · subst hy; exact Or.inr h2
      · exact Or.inl ⟨y, by omega, h2⟩
theorem kLds_4 {H : Nat → Option Nat} (hH : ∀ b h, H b = some h → h < 12) {x : nz_S} (hx : ∀ c, c < 12 → x.1 18 c = oi (H c)) (S : Nat → Bool) (K : Int32 → Int32 → nz_S → Option (Int32 × nz_S)) : ∀ r k fu, k + r = 12 → r < fu → f_X5_leadersOf_4 (bm S) fu (bm (lds H S k)) (nI k) x K = K (bm (lds H S 12)) (nI 12) x
  | 0, k, fu + 1, e, _ => by
    have : k = 12 := by omega
    subst this
    rw [f_X5_leadersOf_4, if_pos ge12]
  | r + 1, k, fu + 1, e, hf => by
    have ih := kLds_4 hH hx S K r (k + 1) fu (by omega) (by omega)
    rw [f_X5_leadersOf_4, if_neg (lt12 (by omega))]
    simp only [kLdr hH hx (show k < 12 by omega), z_bnd, nI_1, bit_bm0 S (show k < 12 by omega), bm_one (ldr H k) (ldrN_lt hH 12 k (by omega)), bm_or]
    cases hs : S k with
    | false =>
      rw [if_pos rfl]
      have : bm (lds H S (k + 1)) = bm (lds H S k) := bm_ext (fun v _ => by rw [lds, hs]; simp)
      rw [this] at ih
      exact ih
    | true =>
      rw [if_neg (by decide)]
      have : bm (lds H S (k + 1)) = bm (fun v => lds H S k v || decide (v = ldr H k)) := bm_ext (fun v _ => by rw [lds, hs]; simp)
      rw [this] at ih
      exact ih
theorem kLds {H : Nat → Option Nat} (hH : ∀ b h, H b = some h → h < 12) {x : nz_S} (hx : ∀ c, c < 12 → x.1 18 c = oi (H c)) (S : Nat → Bool) : f_X5_leadersOf (bm S) x = some (bm (lds H S 12), x) := by
  have := kLds_4 hH hx S (fun u10 _ x9 => some (u10, x9)) 12 0 nz_F (by omega) (by unfold nz_F; omega)
  have e : bm (lds H S 0) = 0 := bm_0.mpr (fun _ _ => rfl)
  rw [e, nI_0] at this
  exact this
/-! ===== a loop gathered ===== -/
def opn (s : zB) : Nat → Bool := fun k => s.1 k && !s.2.1 k
def strg (D : zD) (H : Nat → Option Nat) (S : Nat → Bool) (w : Nat) : Nat → Bool
  | 0 => false
  | n + 1 => strg D H S w n || (S n && !abv D w (ldr H n))
theorem strg_ex (D : zD) (H : Nat → Option Nat) (S : Nat → Bool) (w : Nat) : ∀ n, strg D H S w n = true ↔ ∃ y, y < n ∧ S y = true ∧ abv D w (ldr H y) = false
  | 0 => by simp [strg]
  | n + 1 => by
    rw [strg, Bool.or_eq_true, strg_ex D H S w n, Bool.and_eq_true, Bool.not_eq_true']
    constructor
    · rintro (⟨y, h1, h2⟩ | h)
      · exact ⟨y, by omega, h2⟩
      · exact ⟨n, by omega, h⟩
    · rintro ⟨y, h1, h2⟩
      by_cases hy : y = n
      · subst hy; exact Or.inr h2
      · exact Or.inl ⟨y, by omega, h2⟩
def gSt (D : zD) (H : Nat → Option Nat) (En : Nat → Nat → Bool) (w : Nat) (s : zB) : zB :=
  (fun v => s.1 v || (lds H (En (lb (opn s) 12)) 12 v && abv D w v && !decide (v = w)), fun v => s.2.1 v || decide (v = lb (opn s) 12), fun v => s.2.2.1 v || (lds H (En (lb (opn s) 12)) 12 v && !abv D w v), if strg D H (En (lb (opn s) 12)) w 12 then 3 else s.2.2.2)
def gLp (D : zD) (H : Nat → Option Nat) (En : Nat → Nat → Bool) (w : Nat) : Nat → zB → zB
  | 0, s => s
  | n + 1, s => if lb (opn s) 12 < 12 then gLp D H En w n (gSt D H En w s) else s
def bd0 (G : zG) (D : zD) (H : Nat → Option Nat) (w : Nat) : Nat → Bool := fun v => lds H (bk0 G D w) 12 v && !decide (v = w)
def gS0 (G : zG) (D : zD) (W : zW) (w : Nat) : zB := (bd0 G D W.1 w, fun _ => false, W.2.2 w, if lb (bd0 G D W.1 w) 12 < 12 then 2 else 1)
theorem gS0_1 (G : zG) (D : zD) (W : zW) (w : Nat) : (gS0 G D W w).1 = bd0 G D W.1 w := rfl
theorem gS0_2 (G : zG) (D : zD) (W : zW) (w : Nat) : (gS0 G D W w).2.1 = fun _ => false := rfl
theorem gS0_3 (G : zG) (D : zD) (W : zW) (w : Nat) : (gS0 G D W w).2.2.1 = W.2.2 w := rfl
theorem gS0_4 (G : zG) (D : zD) (W : zW) (w : Nat) : (gS0 G D W w).2.2.2 = if lb (bd0 G D W.1 w) 12 < 12 then 2 else 1 := by simp only [gS0]
theorem bd0_w (G : zG) (D : zD) (H : Nat → Option Nat) (w : Nat) : bd0 G D H w w = false := by unfold bd0; simp
def gS1 (G : zG) (D : zD) (W : zW) (w : Nat) : zB := gLp D W.1 W.2.2 w 12 (gS0 G D W w)
def gat (G : zG) (D : zD) (w : Nat) (W : zW) : zW := if lb (bk0 G D w) 12 < 12 then (fun b => if decide (b < 12) && (gS1 G D W w).1 b then some w else W.1 b, up W.2.1 w (gS1 G D W w).2.2.2, up W.2.2 w (gS1 G D W w).2.2.1) else W
theorem gat_n {G : zG} {D : zD} {w : Nat} {W : zW} (h : ¬ lb (bk0 G D w) 12 < 12) : gat G D w W = W := by rw [gat, if_neg h]
theorem gat_1 {G : zG} {D : zD} {w : Nat} {W : zW} (h : lb (bk0 G D w) 12 < 12) (b : Nat) : (gat G D w W).1 b = if decide (b < 12) && (gS1 G D W w).1 b then some w else W.1 b := by rw [gat, if_pos h]
theorem gat_2 {G : zG} {D : zD} {w : Nat} {W : zW} (h : lb (bk0 G D w) 12 < 12) (b : Nat) : (gat G D w W).2.1 b = if b = w then (gS1 G D W w).2.2.2 else W.2.1 b := by rw [gat, if_pos h]; rfl
theorem gat_3 {G : zG} {D : zD} {w : Nat} {W : zW} (h : lb (bk0 G D w) 12 < 12) (b : Nat) : (gat G D w W).2.2 b = if b = w then (gS1 G D W w).2.2.1 else W.2.2 b := by rw [gat, if_pos h]; rfl
theorem lb12 {s : Nat → Bool} : lb s 12 < 12 ↔ ¬ bm s = 0 := by
  rw [bm_0]
  constructor
  · intro h h2
    have := lb_yes s 12 h
    rw [h2 _ h] at this
    cases this
  · intro h
    rcases Nat.lt_or_ge (lb s 12) 12 with q | q
    · exact q
    · exact absurd (fun k hk => lb_no s 12 k (by omega)) h
theorem lb12' {s : Nat → Bool} (h : lb s 12 < 12) : ∃ k, k < 12 ∧ s k = true := ⟨_, h, lb_yes s 12 h⟩
def fG (w : Nat) (x y : nz_S) : Prop := (∀ c, c ≠ 17 → c ≠ 19 → y.1 c = x.1 c) ∧ (∀ i, i ≠ w → y.1 17 i = x.1 17 i ∧ y.1 19 i = x.1 19 i) ∧ y.2 = x.2
theorem fG.rf (w : Nat) (x : nz_S) : fG w x x := ⟨fun _ _ _ => rfl, fun _ _ => ⟨rfl, rfl⟩, rfl⟩
theorem fG.tr {w : Nat} {x y z : nz_S} (h : fG w x y) (h2 : fG w y z) : fG w x z := ⟨fun c h3 h4 => (h2.1 c h3 h4).trans (h.1 c h3 h4), fun i hi => ⟨((h2.2.1 i hi).1).trans (h.2.1 i hi).1, ((h2.2.1 i hi).2).trans (h.2.1 i hi).2⟩, h2.2.2.trans h.2.2⟩
theorem fG_put (w : Nat) (x : nz_S) (c : Nat) (v : Int32) (h : c = 17 ∨ c = 19) : fG w x (nz_put x c w v) := by
  refine ⟨fun d h1 h2 => by rw [z_put1, if_neg (by omega)], fun i hi => ⟨?_, ?_⟩, rfl⟩
  · rw [z_put1]
    by_cases hc : 17 = c
    · rw [if_pos hc, z_upd, if_neg hi, hc]
    · rw [if_neg hc]
  · rw [z_put1]
    by_cases hc : 19 = c
    · rw [if_pos hc, z_upd, if_neg hi, hc]
    · rw [if_neg hc]
theorem gSt_w {D : zD} {H : Nat → Option Nat} {En : Nat → Nat → Bool} {w : Nat} {s : zB} (h : s.1 w = false) : (gSt D H En w s).1 w = false := by
  show (s.1 w || (_ && !decide (w = w))) = false
  rw [h]; simp
theorem opn_bm (s : zB) : bm s.1 &&& (bm s.2.1 ^^^ (-1)) = bm (opn s) := bm_dif _ _
theorem kGat_47 {D : zD} {H : Nat → Option Nat} {En : Nat → Nat → Bool} (hH : ∀ b h, H b = some h → h < 12) {w : Nat} (hw : w < 12) (K : Int32 → Int32 → Int32 → nz_S → Option (Unit × nz_S)) : ∀ n i fu (s : zB) (x : nz_S), i + n = 12 → n < fu → s.1 w = false → (∀ c, c < 12 → x.1 18 c = oi (H c)) → x.1 14 w = bm (abv D w) → (∀ c, c < 12 → c ≠ w → x.1 17 c = bm (En c)) → x.1 17 w = bm s.2.2.1 → x.1 19 w = nI s.2.2.2 → ∃ y i', f_X5_gather_47 (nI w) fu (bm s.1) (bm s.2.1) (nI i) x K = K (bm (gLp D H En w n s).1) (bm (gLp D H En w n s).2.1) i' y ∧ y.1 17 w = bm (gLp D H En w n s).2.2.1 ∧ y.1 19 w = nI (gLp D H En w n s).2.2.2 ∧ fG w x y
  | 0, i, fu + 1, s, x, e, _, hs, h18, h14, h17, hw17, hw19 => by
    have : i = 12 := by omega
    subst this
    exact ⟨x, nI 12, by rw [f_X5_gather_47, if_pos ge12]; rfl, hw17, hw19, fG.rf w x⟩
  | n + 1, i, fu + 1, s, x, e, hf, hs, h18, h14, h17, hw17, hw19 => by
    rw [f_X5_gather_47, if_neg (lt12 (by omega)), opn_bm]
    by_cases ho : lb (opn s) 12 < 12
    · rw [if_neg (lb12.mp ho)]
      have eg : gLp D H En w (n + 1) s = gLp D H En w n (gSt D H En w s) := by rw [gLp, if_pos ho]
      rw [eg]
      have hxw : lb (opn s) 12 ≠ w := by
        intro q
        have := lb_yes (opn s) 12 ho
        rw [q] at this
        unfold opn at this
        rw [hs] at this
        cases this
      rw [ntz_bm (lb12' ho), z_bnd]
      simp only [z_in ho (by omega), z_chk, z_N (show lb (opn s) 12 < 2147483648 by omega), h17 _ ho hxw, kLds hH h18, z_bnd, z_in hw (by omega), z_N (show w < 2147483648 by omega), h14, bm_one w hw, bm_one _ ho, bm_and, bm_dif, bm_or, nI_1]
      have b1 : bm (fun v => s.1 v || (lds H (En (lb (opn s) 12)) 12 v && abv D w v && !decide (v = w))) = bm (gSt D H En w s).1 := rfl
      have b2 : bm (fun v => s.2.1 v || decide (v = lb (opn s) 12)) = bm (gSt D H En w s).2.1 := rfl
      have hst : (bm (fun v => lds H (En (lb (opn s) 12)) 12 v && !abv D w v) = 0) ↔ strg D H (En (lb (opn s) 12)) w 12 = false := by
        rw [bm_0]
        constructor
        · intro h
          cases hq : strg D H (En (lb (opn s) 12)) w 12 with
          | false => rfl
          | true =>
            obtain ⟨y, y1, y2, y3⟩ := (strg_ex _ _ _ _ _).mp hq
            have := h (ldr H y) (ldrN_lt hH 12 y y1)
            rw [(lds_ex _ _ _ _).mpr ⟨y, y1, y2, rfl⟩, y3] at this
            cases this
        · intro h v hv
          cases hq : (lds H (En (lb (opn s) 12)) 12 v && !abv D w v) with
          | false => rfl
          | true =>
            rw [Bool.and_eq_true, Bool.not_eq_true'] at hq
            obtain ⟨y, y1, y2, y3⟩ := (lds_ex _ _ _ _).mp hq.1
            rw [(strg_ex _ _ _ _ _).mpr ⟨y, y1, y2, by rw [← y3]; exact hq.2⟩] at h
            cases h
      by_cases h0 : bm (fun v => lds H (En (lb (opn s) 12)) 12 v && !abv D w v) = 0
      · rw [if_pos h0]
        have ew : x.1 17 w = bm (gSt D H En w s).2.2.1 := by
          rw [hw17]
          exact bm_ext (fun v hv => by
            show s.2.2.1 v = (s.2.2.1 v || (lds H (En (lb (opn s) 12)) 12 v && !abv D w v))
            rw [bm_0.mp h0 v hv, Bool.or_false])
        have tw : x.1 19 w = nI (gSt D H En w s).2.2.2 := by
          show _ = nI (if strg D H (En (lb (opn s) 12)) w 12 then 3 else s.2.2.2)
          rw [hst.mp h0]; exact hw19
        obtain ⟨y, i', y1, y2, y3, y4⟩ := kGat_47 hH hw K n (i + 1) fu (gSt D H En w s) x (by omega) (by omega) (gSt_w hs) h18 h14 h17 ew tw
        exact ⟨y, i', y1, y2, y3, y4⟩
      · rw [if_neg h0]
        obtain ⟨x29, hx29⟩ : ∃ x29, x29 = nz_put (nz_put x 17 w (x.1 17 w ||| bm (fun v => lds H (En (lb (opn s) 12)) 12 v && !abv D w v))) 19 w 3 := ⟨_, rfl⟩
        have f29 : fG w x x29 := by rw [hx29]; exact (fG_put w x 17 _ (by omega)).tr (fG_put w _ 19 _ (by omega))
        have ew : x29.1 17 w = bm (gSt D H En w s).2.2.1 := by
          rw [hx29, z_put1, if_neg (by omega), z_put1, if_pos rfl, z_upd, if_pos rfl, hw17, bm_or]; rfl
        have tw : x29.1 19 w = nI (gSt D H En w s).2.2.2 := by
          show _ = nI (if strg D H (En (lb (opn s) 12)) w 12 then 3 else s.2.2.2)
          have : strg D H (En (lb (opn s) 12)) w 12 = true := by
            cases hq : strg D H (En (lb (opn s) 12)) w 12 with
            | true => rfl
            | false => exact absurd (hst.mpr hq) h0
          rw [this, hx29, z_put1, if_pos rfl, z_upd, if_pos rfl]; rfl
        obtain ⟨y, i', y1, y2, y3, y4⟩ := kGat_47 hH hw K n (i + 1) fu (gSt D H En w s) x29 (by omega) (by omega) (gSt_w hs) (fun c hc => by rw [f29.1 18 (by omega) (by omega)]; exact h18 c hc) (by rw [f29.1 14 (by omega) (by omega)]; exact h14) (fun c hc hcw => by rw [(f29.2.1 c hcw).1]; exact h17 c hc hcw) ew tw
        refine ⟨y, i', ?_, y2, y3, f29.tr y4⟩
        rw [← hx29]
        exact y1
    · have h0 : bm (opn s) = 0 := by
        by_cases q : bm (opn s) = 0
        · exact q
        · exact absurd (lb12.mpr q) ho
      rw [if_pos h0]
      have eg : gLp D H En w (n + 1) s = s := by rw [gLp, if_neg ho]
      rw [eg]
      exact ⟨x, nI i, rfl, hw17, hw19, fG.rf w x⟩
theorem kGat_155 (S : Nat → Bool) {w : Nat} (K : Int32 → nz_S → Option (Unit × nz_S)) : ∀ r j fu (x : nz_S), j + r = 12 → r < fu → ∃ y, f_X5_gather_155 (nI w) (bm S) fu (nI j) x K = K (nI 12) y ∧ (∀ c, c < 12 → y.1 18 c = if j ≤ c ∧ S c = true then nI w else x.1 18 c) ∧ (∀ c, c ≠ 18 → y.1 c = x.1 c) ∧ y.2 = x.2
  | 0, j, fu + 1, x, e, _ => by
    have : j = 12 := by omega
    subst this
    exact ⟨x, by rw [f_X5_gather_155, if_pos ge12], fun c hc => (if_neg (by omega)).symm, fun _ _ => rfl, rfl⟩
  | r + 1, j, fu + 1, x, e, hf => by
    rw [f_X5_gather_155, if_neg (lt12 (by omega))]
    simp only [bit_bm0 S (show j < 12 by omega), nI_1, z_in (show j < 12 by omega) (by omega), z_chk, z_N (show j < 2147483648 by omega)]
    cases hs : S j with
    | false =>
      rw [if_pos rfl]
      obtain ⟨y, y1, y2, y3, y4⟩ := kGat_155 S (w := w) K r (j + 1) fu x (by omega) (by omega)
      refine ⟨y, y1, fun c hc => ?_, y3, y4⟩
      rw [y2 c hc]
      by_cases hcj : c = j
      · rw [if_neg (by omega), if_neg (by rw [hcj, hs]; simp)]
      · by_cases hq : j + 1 ≤ c ∧ S c = true
        · rw [if_pos hq, if_pos ⟨by omega, hq.2⟩]
        · rw [if_neg hq, if_neg (fun h => hq ⟨by omega, h.2⟩)]
    | true =>
      rw [if_neg (by decide)]
      obtain ⟨y, y1, y2, y3, y4⟩ := kGat_155 S (w := w) K r (j + 1) fu (nz_put x 18 j (nI w)) (by omega) (by omega)
      refine ⟨y, y1, fun c hc => ?_, fun c hc => ?_, y4⟩
      · rw [y2 c hc, z_put1, if_pos rfl, z_upd]
        by_cases hcj : c = j
        · rw [if_neg (by omega), if_pos hcj, if_pos ⟨by omega, by rw [hcj]; exact hs⟩]
        · rw [if_neg hcj]
          by_cases hq : j + 1 ≤ c ∧ S c = true
          · rw [if_pos hq, if_pos ⟨by omega, hq.2⟩]
          · rw [if_neg hq, if_neg (fun h => hq ⟨by omega, h.2⟩)]
      · rw [y3 c hc, z_put1, if_neg hc]
def kW (x : nz_S) (W : zW) : Prop := (∀ c, c < 12 → x.1 18 c = oi (W.1 c)) ∧ (∀ c, c < 12 → x.1 19 c = nI (W.2.1 c)) ∧ (∀ c, c < 12 → x.1 17 c = bm (W.2.2 c))
def fH (x y : nz_S) : Prop := (∀ c, c < 17 ∨ 19 < c → y.1 c = x.1 c) ∧ y.2 = x.2
theorem fH.rf (x : nz_S) : fH x x := ⟨fun _ _ => rfl, rfl⟩
theorem fH.tr {x y z : nz_S} (h : fH x y) (h2 : fH y z) : fH x z := ⟨fun c hc => (h2.1 c hc).trans (h.1 c hc), h2.2.trans h.2⟩
