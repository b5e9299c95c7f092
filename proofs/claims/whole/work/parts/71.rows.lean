/-! ===== ROWS ===== -/
def rowOf (m : Nat) : Nat := m / 27 * 1000 + m / 9 % 3 * 100 + m / 3 % 3 * 10 + m % 3
theorem rowOf_f : ∀ m, m < 81 → ∀ k, k < 4 → rowOf m / 10 ^ (3 - k) % 10 = m / 3 ^ (3 - k) % 3 := by decide +kernel
theorem rowOf_lt : ∀ m, m < 81 → rowOf m < 10000 := by decide +kernel
theorem cho_e {m : Nat} (hm : m < 81) : (((((nI m / (27 : Int32)) * (1000 : Int32)) + ((nI m / 9 - nI m / 9 / (3 : Int32) * (3 : Int32)) * (100 : Int32))) + ((nI m / 3 - nI m / 3 / (3 : Int32) * (3 : Int32)) * (10 : Int32))) + (nI m - nI m / (3 : Int32) * (3 : Int32))) = nI (rowOf m) := by
  have d27 : nI m / 27 = nI (m / 27) := pk_div (d := 27) (by omega) (by omega) (by omega)
  have d9 : nI m / 9 = nI (m / 9) := pk_div (d := 9) (by omega) (by omega) (by omega)
  have d3 : nI m / 3 = nI (m / 3) := pk_div (d := 3) (by omega) (by omega) (by omega)
  have r9 : nI (m / 9) - nI (m / 9) / 3 * 3 = nI (m / 9 % 3) := pk_rem (d := 3) (by omega) (by omega) (by omega)
  have r3 : nI (m / 3) - nI (m / 3) / 3 * 3 = nI (m / 3 % 3) := pk_rem (d := 3) (by omega) (by omega) (by omega)
  have r1 : nI m - nI (m / 3) * 3 = nI (m % 3) := by rw [← d3]; exact pk_rem (d := 3) (by omega) (by omega) (by omega)
  rw [d27, d9, d3, r9, r3, r1, show (1000 : Int32) = nI 1000 from rfl, show (100 : Int32) = nI 100 from rfl, show (10 : Int32) = nI 10 from rfl, pk_mul, pk_mul, pk_mul, nI_add, nI_add, nI_add]
  rfl
theorem kCho {m : Nat} (hm : m < 81) (x : nz_S) : f_X7_choicesOf (nI m) x = some (nI (rowOf m), x) := by
  unfold f_X7_choicesOf
  simp only []
  rw [cho_e hm]
theorem mFgs {m : Nat} (hm : m < 81) (x : nz_S) : f_X8_figures (nI m) x = some (nI (rowOf m), x) := by
  unfold f_X8_figures
  simp only []
  rw [cho_e hm]
/-- where one is behind k of four choices -/
def pt (G : zG) (m : Nat) : Nat → Nat
  | 0 => 0
  | k + 1 => nx G (pt G m k) (m / 3 ^ (3 - k) % 3)
theorem pt_s (G : zG) (m k : Nat) : pt G m (k + 1) = nx G (pt G m k) (m / 3 ^ (3 - k) % 3) := by rw [pt]
theorem pt_lt {G : zG} (hV : zV G) (h0 : 0 < G.1) (m : Nat) : ∀ k, pt G m k < G.1
  | 0 => h0
  | k + 1 => by rw [pt_s]; exact nx_lt hV (pt_lt hV h0 m k) _
/-- what was seen, as numbers: how many, behind how many, letter, whether -/
abbrev zE : Type := Nat × (Nat → Nat) × (Nat → Int32) × (Nat → Bool)
def kE (x : nz_S) (E : zE) : Prop := x.1 33 3 = nI E.1 ∧ ∀ i, i < E.1 → x.1 34 i = nI (E.2.1 i) ∧ x.1 35 i = E.2.2.1 i ∧ x.1 36 i = if E.2.2.2 i then 1 else 0
def mE (y : nz_S) (E : zE) : Prop := y.1 0 11 = nI E.1 ∧ ∀ i, i < E.1 → y.1 8 i = nI (E.2.1 i) ∧ y.1 9 i = E.2.2.1 i ∧ y.1 10 i = if E.2.2.2 i then 1 else 0
theorem rSeen_E {x y : nz_S} (h : rSeen (x.1 33 3) (x.1 34) (x.1 35) (x.1 36) (y.1 0 11) (y.1 8) (y.1 9) (y.1 10)) : ∃ E : zE, E.1 ≤ 6 ∧ (∀ i, i < E.1 → E.2.1 i ≤ 4) ∧ kE x E ∧ mE y E := by
  obtain ⟨m, hm, e1, e2, h⟩ := h
  refine ⟨(m, fun i => (x.1 34 i).toNatClampNeg, fun i => x.1 35 i, fun i => decide (x.1 36 i = 1)), hm, fun i hi => ?_, ⟨e1, fun i hi => ?_⟩, ⟨e2, fun i hi => ?_⟩⟩
  · obtain ⟨⟨k, hk, h1, h2⟩, -⟩ := h i hi
    show (x.1 34 i).toNatClampNeg ≤ 4
    rw [h1, z_N (by omega)]; exact hk
  · obtain ⟨⟨k, hk, h1, h2⟩, h3, h4, h5⟩ := h i hi
    refine ⟨?_, rfl, ?_⟩
    · show _ = nI (x.1 34 i).toNatClampNeg
      rw [h1, z_N (by omega)]
    · show _ = if decide (x.1 36 i = 1) then 1 else 0
      rcases h5 with q | q <;> rw [q] <;> decide
  · obtain ⟨⟨k, hk, h1, h2⟩, h3, h4, h5⟩ := h i hi
    refine ⟨?_, h3.symm, ?_⟩
    · show _ = nI (x.1 34 i).toNatClampNeg
      rw [h1, h2, z_N (by omega)]
    · show _ = if decide (x.1 36 i = 1) then 1 else 0
      rw [← h4]
      rcases h5 with q | q <;> rw [q] <;> decide
/-- the i-th sight is not so, if the act is v -/
def sbd (E : zE) (v : Int32) (i : Nat) : Bool := decide (E.2.2.1 i = v) != E.2.2.2 i
theorem kAgr_2 {E : zE} (h6 : E.1 ≤ 6) (h4 : ∀ i, i < E.1 → E.2.1 i ≤ 4) {x : nz_S} (hE : kE x E) {k : Nat} (hk : k ≤ 4) (v : Int32) : ∀ r i fu, i + r = E.1 → r < fu → anyN (fun i => decide (E.2.1 i = k) && sbd E v i) i = false → f_X3_agree_2 (nI k) v fu (nI i) x (fun _ z => some (1, z)) = some (if anyN (fun i => decide (E.2.1 i = k) && sbd E v i) E.1 then 0 else 1, x)
  | 0, i, fu + 1, e, _, h => by
    have : i = E.1 := by omega
    subst this
    rw [f_X3_agree_2, hE.1, if_pos ((z_le (by omega) (by omega)).mpr (Nat.le_refl _)), h]
    rfl
  | r + 1, i, fu + 1, e, hf, h => by
    have hi : i < E.1 := by omega
    obtain ⟨a1, a2, a3⟩ := hE.2 i hi
    have hw := h4 i hi
    have go : (decide (E.2.1 i = k) && sbd E v i) = false → f_X3_agree_2 (nI k) v fu (nI (i + 1)) x (fun _ z => some (1, z)) = some (if anyN (fun i => decide (E.2.1 i = k) && sbd E v i) E.1 then 0 else 1, x) := fun q => kAgr_2 h6 h4 hE hk v r (i + 1) fu (by omega) (by omega) (by rw [anyN, h, Bool.false_or]; exact q)
    have st : (decide (E.2.1 i = k) && sbd E v i) = true → some ((0 : Int32), x) = some (if anyN (fun i => decide (E.2.1 i = k) && sbd E v i) E.1 then 0 else 1, x) := fun q => by
      rw [(anyN_ex _ _).mpr ⟨i, hi, q⟩]; rfl
    rw [f_X3_agree_2, hE.1, if_neg (by rw [z_le (by omega) (by omega)]; omega)]
    simp only [z_in (show i < 6 by omega) (by omega), z_chk, z_N (show i < 2147483648 by omega), a1, a2, a3, nI_1]
    by_cases q1 : E.2.1 i = k
    · rw [if_pos (by rw [q1])]
      by_cases q2 : E.2.2.1 i = v
      · rw [if_pos q2]
        cases q3 : E.2.2.2 i with
        | true =>
          rw [if_pos rfl, if_pos rfl]
          exact go (by unfold sbd; rw [decide_eq_true q1, decide_eq_true q2, q3]; rfl)
        | false =>
          rw [if_neg (by decide)]
          exact st (by unfold sbd; rw [decide_eq_true q1, decide_eq_true q2, q3]; rfl)
      · rw [if_neg q2]
        cases q3 : E.2.2.2 i with
        | true =>
          rw [if_pos rfl, if_neg (by decide)]
          exact st (by unfold sbd; rw [decide_eq_true q1, decide_eq_false q2, q3]; rfl)
        | false =>
          rw [if_pos (by decide)]
          exact go (by unfold sbd; rw [decide_eq_true q1, decide_eq_false q2, q3]; rfl)
    · rw [if_neg (by rw [z_eq (by omega) (by omega)]; exact q1)]
      exact go (by rw [decide_eq_false q1]; rfl)
def agB (E : zE) (k : Nat) (v : Int32) : Bool := anyN (fun i => decide (E.2.1 i = k) && sbd E v i) E.1
theorem kAgr {E : zE} (h6 : E.1 ≤ 6) (h4 : ∀ i, i < E.1 → E.2.1 i ≤ 4) {x : nz_S} (hE : kE x E) {k : Nat} (hk : k ≤ 4) (v : Int32) : f_X3_agree (nI k) v x = some (if agB E k v then 0 else 1, x) := kAgr_2 h6 h4 hE hk v E.1 0 nz_F (by omega) (by unfold nz_F; omega) rfl
def agA (G : zG) (E : zE) (m : Nat) : Bool := anyN (fun k => agB E k (G.2.1 (pt G m k))) 5
theorem kAws_4 {G : zG} (hV : zV G) (h0 : 0 < G.1) {E : zE} (h6 : E.1 ≤ 6) (h4 : ∀ i, i < E.1 → E.2.1 i ≤ 4) {x : nz_S} (hk : zK x 3 G) (hE : kE x E) {m : Nat} (hm : m < 81) : ∀ r k fu, k + r = 4 → r < fu → anyN (fun k => agB E k (G.2.1 (pt G m k))) k = false → f_X7_agreesWithSights_4 (nI (rowOf m)) fu (nI (pt G m k)) (nI k) x (fun u15 _ x14 => nz_chk (nz_in u15 12) (nz_bnd (f_X3_agree (4 : Int32) (x14.1 4 (u15).toNatClampNeg) x14) fun r18 x19 => nz_chk (nz_bo r18) (some (r18, x19)))) = some (if agA G E m then 0 else 1, x)
  | 0, k, fu + 1, e, _, h => by
    have h12 := hV.1
    have : k = 4 := by omega
    subst this
    have hp := pt_lt hV h0 m 4
    rw [f_X7_agreesWithSights_4, if_pos (by decide), z_in (show pt G m 4 < 12 by omega) (by omega), z_chk, z_N (show pt G m 4 < 2147483648 by omega), show x.1 4 (pt G m 4) = G.2.1 (pt G m 4) from hk.a hp, show (4 : Int32) = nI 4 from rfl, kAgr h6 h4 hE (Nat.le_refl 4), z_bnd, bo_p2, z_chk]
    have : agA G E m = agB E 4 (G.2.1 (pt G m 4)) := by
      unfold agA
      rw [anyN, h, Bool.false_or]
    rw [this]
  | r + 1, k, fu + 1, e, hf, h => by
    have h12 := hV.1
    have hk4 : k < 4 := by omega
    have hp := pt_lt hV h0 m k
    have hrl := rowOf_lt m hm
    have e1 : (3 : Int32) - nI k = nI (3 - k) := pk_sub (a := 3) (by omega)
    have hfg := rowOf_f m hm k hk4
    have hd : m / 3 ^ (3 - k) % 3 < 3 := Nat.mod_lt _ (by omega)
    rw [f_X7_agreesWithSights_4, if_neg (by rw [show (4 : Int32) = nI 4 from rfl, z_le (by omega) (by omega)]; omega), z_in (show pt G m k < 12 by omega) (by omega), z_chk, z_N (show pt G m k < 2147483648 by omega), show x.1 4 (pt G m k) = G.2.1 (pt G m k) from hk.a hp, kAgr h6 h4 hE (by omega), z_bnd]
    cases q : agB E k (G.2.1 (pt G m k)) with
    | true =>
      have : agA G E m = true := (anyN_ex _ _).mpr ⟨k, by omega, q⟩
      rw [this]
      simp only [if_true]
    | false =>
      have ih := kAws_4 hV h0 h6 h4 hk hE hm r (k + 1) fu (by omega) (by omega) (by rw [anyN, h, Bool.false_or]; exact q)
      rw [pt_s] at ih
      simp only [Bool.false_eq_true, if_false, one0, nI_l (show rowOf m < 2 ^ 31 by omega), e1, kFig (show rowOf m < 2 ^ 63 by omega) (show 3 - k < 900 by omega), hfg, z_bnd, kFol hk hV hp (show m / 3 ^ (3 - k) % 3 < 100 by omega), nI_1]
      exact ih
theorem kAws {G : zG} (hV : zV G) (h0 : 0 < G.1) {E : zE} (h6 : E.1 ≤ 6) (h4 : ∀ i, i < E.1 → E.2.1 i ≤ 4) {x : nz_S} (hk : zK x 3 G) (hE : kE x E) {m : Nat} (hm : m < 81) : f_X7_agreesWithSights (nI (rowOf m)) x = some (if agA G E m then 0 else 1, x) := kAws_4 hV h0 h6 h4 hk hE hm 4 0 nz_F (by omega) (by unfold nz_F; omega) rfl
/-! in the reference -/
theorem p3 : ∀ n, n < 4 → 3 ^ n < 100 ∧ 0 < 3 ^ n := by decide +kernel
theorem mAct_5 {G : zG} (hV : zV G) (h0 : 0 < G.1) {y : nz_S} (hz : zM y 3 G) {m k : Nat} (hm : m < 81) (hk : k ≤ 4) (K : Int32 → nz_S → Option (Int32 × nz_S)) : ∀ r i fu, i + r = k → r < fu → f_X8_actBehind_5 (nI m) (nI k) fu (nI (pt G m i)) (nI i) y (fun u _ z => K u z) = K (nI (pt G m k)) y
  | 0, i, fu + 1, e, _ => by
    have : i = k := by omega
    subst this
    rw [f_X8_actBehind_5, if_pos ((z_le (by omega) (by omega)).mpr (Nat.le_refl _))]
  | r + 1, i, fu + 1, e, hf => by
    have ih := mAct_5 hV h0 hz hm hk K r (i + 1) fu (by omega) (by omega)
    have hp := pt_lt hV h0 m i
    have e1 : (3 : Int32) - nI i = nI (3 - i) := pk_sub (a := 3) (by omega)
    have h3 := p3 (3 - i) (by omega)
    have hn0 := nI_nz0 h3.2 (by omega)
    have e2 : nI m / nI (3 ^ (3 - i)) = nI (m / 3 ^ (3 - i)) := pk_div (by omega) h3.2 (by omega)
    have hdl : m / 3 ^ (3 - i) < 81 := Nat.lt_of_le_of_lt (Nat.div_le_self _ _) hm
    have e4 : nI (m / 3 ^ (3 - i)) - nI (m / 3 ^ (3 - i)) / 3 * 3 = nI (m / 3 ^ (3 - i) % 3) := pk_rem (d := 3) (by omega) (by omega) (by omega)
    have hd : m / 3 ^ (3 - i) % 3 < 3 := Nat.mod_lt _ (by omega)
    have m3 : f_X8_power 3 (nI (3 - i)) y = f_X8_power (nI 3) (nI (3 - i)) y := rfl
    rw [pt_s] at ih
    rw [f_X8_actBehind_5, if_neg (by rw [z_le (by omega) (by omega)]; omega), e1, m3, mPw (by omega), z_bnd, nz_ne hn0, z_chk]
    simp only [e2, e4, mStp hz hV hp (show m / 3 ^ (3 - i) % 3 < 100 by omega), z_bnd, nI_1]
    exact ih
theorem mAct {G : zG} (hV : zV G) (h0 : 0 < G.1) {y : nz_S} (hz : zM y 3 G) {m k : Nat} (hm : m < 81) (hk : k ≤ 4) : f_X8_actBehind (nI m) (nI k) y = some (G.2.1 (pt G m k), y) := by
  have h12 := hV.1
  have hp := pt_lt hV h0 m k
  have e1p : (1 : Int32) + nI (pt G m k) = nI (1 + pt G m k) := by rw [show (1 : Int32) = nI 1 from rfl, nI_add]
  have := mAct_5 hV h0 hz hm hk (fun u12 x11 => nz_chk (nz_in ((1 : Int32) + u12) 61) (some ((x11.1 3 ((1 : Int32) + u12).toNatClampNeg), x11))) k 0 nz_F (by omega) (by unfold nz_F; omega)
  rw [nI_0] at this
  refine this.trans ?_
  rw [e1p, z_in (show 1 + pt G m k < 61 by omega) (by omega), z_chk, z_N (show 1 + pt G m k < 2147483648 by omega), hz.a hp]
def rbd (G : zG) (E : zE) (m i : Nat) : Bool := sbd E (G.2.1 (pt G m (E.2.1 i))) i
theorem mRow_54 {G : zG} (hV : zV G) (h0 : 0 < G.1) {E : zE} (h6 : E.1 ≤ 6) (h4 : ∀ i, i < E.1 → E.2.1 i ≤ 4) {y : nz_S} (hz : zM y 3 G) (hE : mE y E) {m : Nat} (hm : m < 81) (c1 : Int32) (K : Int32 → nz_S → Option (Int32 × nz_S)) : ∀ r i fu, i + r = E.1 → r < fu → f_X8_rows_54 c1 (nI m) fu (if anyN (rbd G E m) i then 0 else 1) (nI i) y (fun u _ z => K u z) = K (if anyN (rbd G E m) E.1 then 0 else 1) y
  | 0, i, fu + 1, e, _ => by
    have : i = E.1 := by omega
    subst this
    rw [f_X8_rows_54, hE.1, if_pos ((z_le (by omega) (by omega)).mpr (Nat.le_refl _))]
  | r + 1, i, fu + 1, e, hf => by
    have hi : i < E.1 := by omega
    obtain ⟨a1, a2, a3⟩ := hE.2 i hi
    have hw := h4 i hi
    have ih := mRow_54 hV h0 h6 h4 hz hE hm c1 K r (i + 1) fu (by omega) (by omega)
    rw [anyN] at ih
    rw [f_X8_rows_54, hE.1, if_neg (by rw [z_le (by omega) (by omega)]; omega)]
    cases q0 : anyN (rbd G E m) i with
    | true =>
      rw [q0, Bool.true_or] at ih
      simp only [if_true, nI_1] at ih ⊢
      exact ih
    | false =>
      rw [q0, Bool.false_or] at ih
      simp only [Bool.false_eq_true, if_false, one0, z_in (show i < 6 by omega) (by omega), z_chk, z_N (show i < 2147483648 by omega), a1, mAct hV h0 hz hm hw, z_bnd, a2, a3, nI_1]
      by_cases q2 : G.2.1 (pt G m (E.2.1 i)) = E.2.2.1 i
      · rw [if_pos q2]
        cases q3 : E.2.2.2 i with
        | true =>
          rw [show rbd G E m i = false by unfold rbd sbd; rw [decide_eq_true q2.symm, q3]; rfl, if_neg (by decide)] at ih
          rw [if_pos rfl, if_pos rfl]; exact ih
        | false =>
          rw [show rbd G E m i = true by unfold rbd sbd; rw [decide_eq_true q2.symm, q3]; rfl, if_pos rfl] at ih
          rw [if_neg (by decide)]; exact ih
      · rw [if_neg q2]
        cases q3 : E.2.2.2 i with
        | true =>
          rw [show rbd G E m i = true by unfold rbd sbd; rw [decide_eq_false (fun e => q2 e.symm), q3]; rfl, if_pos rfl] at ih
          rw [if_pos rfl, if_pos rfl]; exact ih
        | false =>
          rw [show rbd G E m i = false by unfold rbd sbd; rw [decide_eq_false (fun e => q2 e.symm), q3]; rfl, if_neg (by decide)] at ih
          rw [if_neg (by decide)]; exact ih
theorem ag_rb {G : zG} {E : zE} (h4 : ∀ i, i < E.1 → E.2.1 i ≤ 4) (m : Nat) : anyN (rbd G E m) E.1 = agA G E m := by
  rw [Bool.eq_iff_iff, anyN_ex]
  unfold agA
  rw [anyN_ex]
  constructor
  · rintro ⟨i, h1, h2⟩
    have := h4 i h1
    refine ⟨E.2.1 i, by omega, ?_⟩
    unfold agB
    rw [anyN_ex]
    exact ⟨i, h1, by rw [decide_eq_true rfl, Bool.true_and]; exact h2⟩
  · rintro ⟨k, h1, h2⟩
    unfold agB at h2
    rw [anyN_ex] at h2
    obtain ⟨i, h3, h5⟩ := h2
    rw [Bool.and_eq_true, decide_eq_true_iff] at h5
    refine ⟨i, h3, ?_⟩
    unfold rbd
    rw [h5.1]; exact h5.2
/-! how many, and the first -/
def rwF (m : Nat) : Option Nat → Option Nat
  | none => some (rowOf m)
  | some f => some f
def rw2 (G : zG) (E : zE) : Nat → Nat × Option Nat
  | 0 => (0, none)
  | m + 1 => if agA G E m then rw2 G E m else ((rw2 G E m).1 + 1, rwF m (rw2 G E m).2)
theorem rw2_y {G : zG} {E : zE} {m : Nat} (h : agA G E m = true) : rw2 G E (m + 1) = rw2 G E m := by rw [rw2, if_pos h]
theorem rw2_n {G : zG} {E : zE} {m : Nat} (h : agA G E m = false) : rw2 G E (m + 1) = ((rw2 G E m).1 + 1, rwF m (rw2 G E m).2) := by rw [rw2, if_neg (by rw [h]; decide)]
theorem rw2_I (G : zG) (E : zE) : ∀ m, (rw2 G E m).1 ≤ m ∧ ((rw2 G E m).1 = 0 ↔ (rw2 G E m).2 = none) ∧ (∀ f, (rw2 G E m).2 = some f → ∃ j, j < m ∧ f = rowOf j)
  | 0 => ⟨Nat.le_refl _, ⟨fun _ => rfl, fun _ => rfl⟩, fun f e => by cases e⟩
  | m + 1 => by
    obtain ⟨i1, i2, i3⟩ := rw2_I G E m
    cases q : agA G E m with
    | true =>
      rw [rw2_y q]
      exact ⟨by omega, i2, fun f e => by obtain ⟨j, h1, h2⟩ := i3 f e; exact ⟨j, by omega, h2⟩⟩
    | false =>
      rw [rw2_n q]
      refine ⟨by show (rw2 G E m).1 + 1 ≤ m + 1; omega, ⟨fun e => (by cases e), fun e => ?_⟩, fun f e => ?_⟩
      · cases e2 : (rw2 G E m).2 with
        | none => rw [e2] at e; cases e
        | some f => rw [e2] at e; cases e
      · cases e2 : (rw2 G E m).2 with
        | none =>
          rw [e2] at e
          exact ⟨m, by omega, (Option.some.inj e).symm⟩
        | some g =>
          rw [e2] at e
          have e : g = f := Option.some.inj e
          obtain ⟨j, h1, h2⟩ := i3 g e2
          exact ⟨j, by omega, by rw [← e]; exact h2⟩
theorem ge81 : (81 : Int32) ≤ nI 81 := by decide
theorem lt81 {j : Nat} (h : j < 81) : ¬ (81 : Int32) ≤ nI j := by
  rw [show (81 : Int32) = nI 81 from rfl, z_le (by omega) (by omega)]; omega
theorem kRow_33 {G : zG} (hV : zV G) (h0 : 0 < G.1) {E : zE} (h6 : E.1 ≤ 6) (h4 : ∀ i, i < E.1 → E.2.1 i ≤ 4) {x : nz_S} (hk : zK x 3 G) (hE : kE x E) (c1 : Int32) (K : Int32 → Int32 → nz_S → Option (Int32 × nz_S)) : ∀ r m fu, m + r = 81 → r < fu → f_X7_rows_33 c1 fu (nI (rw2 G E m).1) (oi (rw2 G E m).2) (nI m) x (fun u v _ z => K u v z) = K (nI (rw2 G E 81).1) (oi (rw2 G E 81).2) x
  | 0, m, fu + 1, e, _ => by
    have : m = 81 := by omega
    subst this
    rw [f_X7_rows_33, if_pos ge81]
  | r + 1, m, fu + 1, e, hf => by
    have hm : m < 81 := by omega
    have ih := kRow_33 hV h0 h6 h4 hk hE c1 K r (m + 1) fu (by omega) (by omega)
    obtain ⟨i1, i2, i3⟩ := rw2_I G E m
    rw [f_X7_rows_33, if_neg (lt81 hm), kCho hm, z_bnd, kAws hV h0 h6 h4 hk hE hm, z_bnd]
    cases q : agA G E m with
    | true =>
      rw [rw2_y q] at ih
      simp only [if_true, nI_1]
      exact ih
    | false =>
      rw [rw2_n q] at ih
      simp only [Bool.false_eq_true, if_false, one0, nI_1]
      cases e2 : (rw2 G E m).2 with
      | none =>
        rw [e2] at ih
        rw [oi_none, if_pos rfl]
        exact ih
      | some f =>
        obtain ⟨j, hj, hfj⟩ := i3 f e2
        have := rowOf_lt j (by omega)
        rw [e2] at ih
        rw [oi_some, if_neg (z_m9 (by omega))]
        exact ih
theorem mRow_43 {G : zG} (hV : zV G) (h0 : 0 < G.1) {E : zE} (h6 : E.1 ≤ 6) (h4 : ∀ i, i < E.1 → E.2.1 i ≤ 4) (c1 : Int32) (K : nz_S → Option (Int32 × nz_S)) : ∀ r m fu (y : nz_S), m + r = 81 → r < fu → zM y 3 G → mE y E → y.1 0 25 = nI (rw2 G E m).1 → y.1 0 26 = oi (rw2 G E m).2 → ∃ y', f_X8_rows_43 c1 fu (nI m) y (fun _ z => K z) = K y' ∧ y'.1 0 25 = nI (rw2 G E 81).1 ∧ y'.1 0 26 = oi (rw2 G E 81).2 ∧ eM y y'
  | 0, m, fu + 1, y, e, _, hz, hE, h25, h26 => by
    have : m = 81 := by omega
    subst this
    exact ⟨y, by rw [f_X8_rows_43, if_pos ge81], h25, h26, eM.rf y⟩
  | r + 1, m, fu + 1, y, e, hf, hz, hE, h25, h26 => by
    have hm : m < 81 := by omega
    obtain ⟨i1, i2, i3⟩ := rw2_I G E m
    have go : ∀ (a b : Int32), b = oi (rw2 G E (m + 1)).2 → a = nI (rw2 G E (m + 1)).1 → ∃ y', f_X8_rows_43 c1 fu (nI (m + 1)) (nz_put (nz_put y 0 26 b) 0 25 a) (fun _ z => K z) = K y' ∧ y'.1 0 25 = nI (rw2 G E 81).1 ∧ y'.1 0 26 = oi (rw2 G E 81).2 ∧ eM y y' := by
      intro a b hb ha
      have ee : eM y (nz_put (nz_put y 0 26 b) 0 25 a) := (eM_put0 y 26 b (by omega)).tr (eM_put0 _ 25 a (by omega))
      obtain ⟨y', w1, w2, w3, w4⟩ := mRow_43 hV h0 h6 h4 c1 K r (m + 1) fu (nz_put (nz_put y 0 26 b) 0 25 a) (by omega) (by omega) (zM_eq hz (ee.1 3 (by omega))) (by
        unfold mE
        rw [ee.2.2.2.1, ee.1 8 (by omega), ee.1 9 (by omega), ee.1 10 (by omega)]
        exact hE) (by rw [z_put1, if_pos rfl, z_upd, if_pos rfl, ha]) (by rw [z_put1, if_pos rfl, z_upd, if_neg (by omega), z_put1, if_pos rfl, z_upd, if_pos rfl, hb])
      exact ⟨y', w1, w2, w3, ee.tr w4⟩
    have g25 : ∀ b : Int32, (nz_put y 0 26 b).1 0 25 = nI (rw2 G E m).1 := fun b => by rw [z_put1, if_pos rfl, z_upd, if_neg (by omega), h25]
    obtain ⟨Kz, hKz⟩ : ∃ Kz : Int32 → nz_S → Option (Int32 × nz_S), Kz = (fun u33 x32 => if u33 = (0 : Int32) then (if u33 = (0 : Int32) then f_X8_rows_43 c1 fu (nI m + 1) (nz_put (nz_put x32 0 26 (x32.1 0 26)) 0 25 (((nz_put x32 0 26 (x32.1 0 26)).1 0 25) + 0)) (fun _ z => K z) else f_X8_rows_43 c1 fu (nI m + 1) (nz_put (nz_put x32 0 26 (x32.1 0 26)) 0 25 (((nz_put x32 0 26 (x32.1 0 26)).1 0 25) + 1)) (fun _ z => K z)) else (if (x32.1 0 25) = (0 : Int32) then nz_bnd (f_X8_figures (nI m) x32) fun r49 x50 => (if u33 = (0 : Int32) then f_X8_rows_43 c1 fu (nI m + 1) (nz_put (nz_put x50 0 26 r49) 0 25 (((nz_put x50 0 26 r49).1 0 25) + 0)) (fun _ z => K z) else f_X8_rows_43 c1 fu (nI m + 1) (nz_put (nz_put x50 0 26 r49) 0 25 (((nz_put x50 0 26 r49).1 0 25) + 1)) (fun _ z => K z)) else (if u33 = (0 : Int32) then f_X8_rows_43 c1 fu (nI m + 1) (nz_put (nz_put x32 0 26 (x32.1 0 26)) 0 25 (((nz_put x32 0 26 (x32.1 0 26)).1 0 25) + 0)) (fun _ z => K z) else f_X8_rows_43 c1 fu (nI m + 1) (nz_put (nz_put x32 0 26 (x32.1 0 26)) 0 25 (((nz_put x32 0 26 (x32.1 0 26)).1 0 25) + 1)) (fun _ z => K z)))) := ⟨_, rfl⟩
    have L := mRow_54 hV h0 h6 h4 hz hE hm c1 Kz E.1 0 nz_F (by omega) (by unfold nz_F; omega)
    rw [show anyN (rbd G E m) 0 = false from rfl, if_neg (by decide), nI_0, ag_rb h4] at L
    have base : f_X8_rows_43 c1 (fu + 1) (nI m) y (fun _ z => K z) = Kz (if agA G E m then 0 else 1) y := by
      rw [f_X8_rows_43, if_neg (lt81 hm)]
      rw [hKz] at L ⊢
      exact L
    rw [base, hKz]
    cases q : agA G E m with
    | true =>
      simp only [if_true, g25, nI_a0, nI_1]
      refine go _ _ ?_ ?_
      · rw [rw2_y q]; exact h26
      · rw [rw2_y q]
    | false =>
      simp only [Bool.false_eq_true, if_false, one0, h25, mFgs hm, z_bnd, g25, nI_1]
      by_cases c0 : (rw2 G E m).1 = 0
      · rw [if_pos (by rw [c0]; rfl)]
        refine go _ _ ?_ ?_
        · rw [rw2_n q, i2.mp c0]; rfl
        · rw [rw2_n q]
      · rw [if_neg (nI_nz0 (by omega) (by omega))]
        refine go _ _ ?_ ?_
        · rw [rw2_n q]
          cases e2 : (rw2 G E m).2 with
          | none => exact absurd (i2.mpr e2) c0
          | some f => rw [h26, e2]; rfl
        · rw [rw2_n q]
theorem sim_rows (v : Int32) (a b : nz_S) (h : zR a b) : nz_both zR (f_X7_rows v a) (f_X8_rows v b) := by
  obtain ⟨-, ⟨G, hV, hk, hm⟩, -, -, h5, -⟩ := id h
  have hk : zK a 3 G := hk
  have hm : zM b 3 G := hm
  have h12 := hV.1
  have em : eM b (nz_put b 0 0 0) := eM_put0 _ _ _ (by omega)
  have hm0 : zM (nz_put b 0 0 0) 3 G := zM_eq hm (em.1 3 (by omega))
  have e0 : ((0 : Int32)).toNatClampNeg = 0 := rfl
  obtain ⟨E, h6, h4, kE1, mE1⟩ := rSeen_E h5
  by_cases hw : 0 ≤ v.toInt ∧ v.toInt ≤ 1
  · have hw0 := hw
    obtain ⟨k, hk2, rfl⟩ := ib_ex (v := v) (n := 2) ⟨hw.1, by omega⟩
    have c1 : ¬ nI k < 0 := nI_pos (by omega)
    have c2 : nI k ≤ 1 := (z_le (b := 1) (by omega) (by omega)).mpr (by omega)
    by_cases hG : G.1 = 0
    · refine ⟨-3, a, nz_put b 0 0 0, ?_, ?_, h.eq (eK.rf a) em⟩
      · rw [f_X7_rows, if_neg c1, if_pos c2, hk.n, if_pos (by rw [hG]; rfl)]
      · unfold f_X8_rows
        simp only [in_eqI, l0, l1, hw0, and_self, if_true, z_bnd, one0, if_false, show nz_in 0 61 = true from rfl, z_chk, e0, hm0.n]
        rw [if_pos (by rw [hG]; rfl)]
    · have g0 : ¬ nI G.1 = 0 := nI_nz0 (by omega) (by omega)
      have ee : eM b (nz_put (nz_put (nz_put b 0 0 0) 0 25 0) 0 26 (-9)) := (em.tr (eM_put0 _ 25 0 (by omega))).tr (eM_put0 _ 26 _ (by omega))
      have w1 := kRow_33 hV (by omega) h6 h4 hk kE1 (nI k) (fun u18 u19 x17 => if nI k = 0 then some (u18, x17) else some (u19, x17)) 81 0 nz_F (by omega) (by unfold nz_F; omega)
      obtain ⟨y', u1, u2, u3, u4⟩ := mRow_43 hV (by omega) h6 h4 (nI k) (fun x58 => if nI k = 0 then some ((x58.1 0 25), x58) else some ((x58.1 0 26), x58)) 81 0 nz_F (nz_put (nz_put (nz_put b 0 0 0) 0 25 0) 0 26 (-9)) (by omega) (by unfold nz_F; omega) (zM_eq hm (ee.1 3 (by omega))) (by
        unfold mE
        rw [ee.2.2.2.1, ee.1 8 (by omega), ee.1 9 (by omega), ee.1 10 (by omega)]
        exact mE1) (by rw [z_put1, if_pos rfl, z_upd, if_neg (by omega), z_put1, if_pos rfl, z_upd, if_pos rfl]; rfl) (by rw [z_put1, if_pos rfl, z_upd, if_pos rfl]; rfl)
      rw [nI_0, show (rw2 G E 0).1 = 0 from rfl, show oi (rw2 G E 0).2 = -9 from rfl, nI_0] at w1
      rw [nI_0] at u1
      have kc : f_X7_rows (nI k) a = if nI k = 0 then some (nI (rw2 G E 81).1, a) else some (oi (rw2 G E 81).2, a) := by
        rw [f_X7_rows, if_neg c1, if_pos c2, hk.n, if_neg g0]
        exact w1
      have mc : f_X8_rows (nI k) b = if nI k = 0 then some (nI (rw2 G E 81).1, y') else some (oi (rw2 G E 81).2, y') := by
        unfold f_X8_rows
        simp only [in_eqI, l0, l1, hw0, and_self, if_true, z_bnd, one0, if_false, show nz_in 0 61 = true from rfl, z_chk, e0, hm0.n, g0]
        refine u1.trans ?_
        rw [u2, u3]
      rw [kc, mc]
      by_cases k0 : nI k = 0
      · rw [if_pos k0, if_pos k0]
        exact ⟨_, a, y', rfl, rfl, h.eq (eK.rf a) (ee.tr u4)⟩
      · rw [if_neg k0, if_neg k0]
        exact ⟨_, a, y', rfl, rfl, h.eq (eK.rf a) (ee.tr u4)⟩
  · refine ⟨-2, a, nz_put b 0 0 0, ?_, ?_, h.eq (eK.rf a) em⟩
    · by_cases c1 : v < 0
      · rw [f_X7_rows, if_pos c1]
      · have c2 : ¬ v ≤ 1 := by rw [fa_le, i1]; rw [fa_lt, i0] at c1; omega
        rw [f_X7_rows, if_neg c1, if_neg c2]
    · unfold f_X8_rows
      simp only [in_eqI, l0, l1, hw, if_false, z_bnd, if_true]
