/-! ===== to where one comes without a block ===== -/
def rB (G : zG) (d : Option Nat) (b : Nat) (S : Nat → Bool) (v : Nat) : Bool := S v || (S b && gGo G b v && !decide (d = some v))
def rC (G : zG) (d : Option Nat) : Nat → (Nat → Bool) → Nat → Bool
  | 0, S => S
  | j + 1, S => rB G d j (rC G d j S)
def rD (G : zG) (d : Option Nat) : Nat → (Nat → Bool) → Nat → Bool
  | 0, S => S
  | n + 1, S => rD G d n (rC G d G.1 S)
def rS0 (G : zG) (d : Option Nat) (v : Nat) : Bool := decide (v = 0) && (!decide (G.1 = 0) && !decide (d = some 0))
def rch (G : zG) (d : Option Nat) : Nat → Bool := rD G d 12 (rS0 G d)
theorem rC_s (G : zG) (d : Option Nat) (j : Nat) (S : Nat → Bool) (v : Nat) : rC G d (j + 1) S v = (rC G d j S v || (rC G d j S j && gGo G j v && !decide (d = some v))) := by rw [rC, rB]
theorem rC_mono (G : zG) (d : Option Nat) (S : Nat → Bool) {v j : Nat} (h : rC G d j S v = true) : ∀ n, rC G d (j + n) S v = true
  | 0 => h
  | n + 1 => by
    show rC G d ((j + n) + 1) S v = true
    rw [rC_s, rC_mono G d S h n]; rfl
theorem rC_ge (G : zG) (d : Option Nat) {S : Nat → Bool} {v : Nat} (h : S v = true) (j : Nat) : rC G d j S v = true := by
  have := rC_mono G d S (v := v) (j := 0) h j
  rw [Nat.zero_add] at this
  exact this
def rcl (G : zG) (d : Option Nat) (S : Nat → Bool) : Prop := ∀ c, c < G.1 → ∀ t, t < 12 → S c = true → gGo G c t = true → ¬ d = some t → S t = true
theorem rC_step {G : zG} {d : Option Nat} {S : Nat → Bool} {c t : Nat} (hc : c < G.1) (h : S c = true) (hg : gGo G c t = true) (hd : ¬ d = some t) : rC G d G.1 S t = true := by
  have h1 : rC G d (c + 1) S t = true := by
    rw [rC_s, rC_ge G d h c, hg, decide_eq_false hd]; simp
  have := rC_mono G d S h1 (G.1 - (c + 1))
  rw [show c + 1 + (G.1 - (c + 1)) = G.1 by omega] at this
  exact this
theorem rC_same {G : zG} {d : Option Nat} {S : Nat → Bool} (h12 : G.1 ≤ 12) (h : rcl G d S) : ∀ j, j ≤ G.1 → ∀ v, v < 12 → rC G d j S v = S v
  | 0, _, v, _ => rfl
  | j + 1, hj, v, hv => by
    rw [rC_s, rC_same h12 h j (by omega) v hv, rC_same h12 h j (by omega) j (by omega)]
    cases e : (S j && gGo G j v && !decide (d = some v)) with
    | false => rw [Bool.or_false]
    | true =>
      rw [Bool.and_eq_true, Bool.and_eq_true, Bool.not_eq_true', decide_eq_false_iff_not] at e
      rw [h j (by omega) v hv e.1.1 e.1.2 e.2]; rfl
theorem rD_cl {G : zG} {d : Option Nat} (h12 : G.1 ≤ 12) : ∀ n (S : Nat → Bool), (rcl G d S ∨ 12 ≤ fb_ct S 12 + n) → rcl G d (rD G d n S)
  | 0, S, h => by
    rcases h with h | h
    · exact h
    · have hle := fb_ct_le S 12
      have hall := fb_ct_all.mp (show fb_ct S 12 = 12 by omega)
      exact fun c hc t ht _ _ _ => hall t ht
  | n + 1, S, h => by
    show rcl G d (rD G d n (rC G d G.1 S))
    refine rD_cl h12 n _ ?_
    by_cases hf : ∀ v, v < 12 → rC G d G.1 S v = true → S v = true
    · refine Or.inl (fun c hc t ht h1 h2 h3 => ?_)
      exact rC_step hc (hf c (by omega) h1) h2 h3
    · refine Or.inr ?_
      have hx : ∃ v, v < 12 ∧ rC G d G.1 S v = true ∧ S v = false := by
        refine Classical.byContradiction fun q => hf fun v hv e => ?_
        cases es : S v with
        | true => rfl
        | false => exact absurd ⟨v, hv, e, es⟩ q
      obtain ⟨v, hv, e1, e2⟩ := hx
      have u := fb_ct_upd S true hv
      rw [e2] at u
      simp only [Bool.false_eq_true, if_false, if_true, Nat.add_zero] at u
      have s : fb_ct (fun k => if k = v then true else S k) 12 ≤ fb_ct (rC G d G.1 S) 12 := fb_ct_sub (fun k _ hk => by
        by_cases q : k = v
        · rw [q]; exact e1
        · rw [if_neg q] at hk; exact rC_ge G d hk _)
      rcases h with h | h
      · exact absurd (fun v hv e => by rw [rC_same h12 h G.1 (Nat.le_refl _) v hv] at e; exact e) hf
      · omega
theorem rch_cl {G : zG} (hV : zV G) (d : Option Nat) : rcl G d (rch G d) := rD_cl hV.1 12 _ (Or.inr (by omega))
theorem rD_ge (G : zG) (d : Option Nat) : ∀ n (S : Nat → Bool) (v : Nat), S v = true → rD G d n S v = true
  | 0, S, v, h => h
  | n + 1, S, v, h => rD_ge G d n _ v (rC_ge G d h _)
theorem rch_0 {G : zG} {d : Option Nat} (h : G.1 ≠ 0) (hd : ¬ d = some 0) : rch G d 0 = true := rD_ge G d 12 _ 0 (by
  unfold rS0
  rw [decide_eq_false h, decide_eq_false hd]; simp)
theorem rC_min {G : zG} {d : Option Nat} (B : Nat → Prop) (hB : ∀ c t, B c → gGo G c t = true → ¬ d = some t → B t) {S : Nat → Bool} (h : ∀ v, S v = true → B v) : ∀ j v, rC G d j S v = true → B v
  | 0, v, e => h v e
  | j + 1, v, e => by
    rw [rC_s, Bool.or_eq_true, Bool.and_eq_true, Bool.and_eq_true, Bool.not_eq_true', decide_eq_false_iff_not] at e
    rcases e with e | ⟨⟨e1, e2⟩, e3⟩
    · exact rC_min B hB h j v e
    · exact hB j v (rC_min B hB h j j e1) e2 e3
theorem rD_min {G : zG} {d : Option Nat} (B : Nat → Prop) (hB : ∀ c t, B c → gGo G c t = true → ¬ d = some t → B t) : ∀ n (S : Nat → Bool), (∀ v, S v = true → B v) → ∀ v, rD G d n S v = true → B v
  | 0, S, h, v, e => h v e
  | n + 1, S, h, v, e => rD_min B hB n _ (rC_min B hB h G.1) v e
theorem rch_min {G : zG} {d : Option Nat} (B : Nat → Prop) (h0 : G.1 ≠ 0 → ¬ d = some 0 → B 0) (hB : ∀ c t, B c → gGo G c t = true → ¬ d = some t → B t) : ∀ v, rch G d v = true → B v := rD_min B hB 12 _ (fun v e => by
  unfold rS0 at e
  rw [Bool.and_eq_true, Bool.and_eq_true, Bool.not_eq_true', Bool.not_eq_true', decide_eq_true_iff, decide_eq_false_iff_not, decide_eq_false_iff_not] at e
  rw [e.1]; exact h0 e.2.1 e.2.2)
theorem rch_od {G : zG} {D : zD} (hV : zV G) (hF : zF G D) {v : Nat} : rch G none v = od D v := by
  have h12 := hV.1
  rw [Bool.eq_iff_iff]
  constructor
  · exact rch_min (fun v => od D v = true) (fun h _ => od_ex.mpr ⟨0, hF.ze h⟩) (fun c t hc hg _ => hF.cl c t hc (gGo_mem.mp hg)) v
  · intro e
    have hn : G.1 ≠ 0 := by have := hF.lt e; omega
    refine (hF.re (fun v => v < G.1 ∧ rch G none v = true) (fun c hc t ht => ?_) ⟨by omega, rch_0 hn (by simp)⟩ v e).2
    have htt := (hV.2 c hc.1).2 t ht
    exact ⟨htt, rch_cl hV none c hc.1 t (by omega) hc.2 (gGo_mem.mpr ht) (by simp)⟩
/-! in the reference -/
def rI (G : zG) (d : Option Nat) (b : Nat) (S : Nat → Bool) (i v : Nat) : Bool := S v || (goL (G.2.2 b) v i && !decide (d = some v))
theorem goL_s (l : List Nat) (t i : Nat) : goL l t (i + 1) = (goL l t i || decide (l.getD i 0 = t)) := by rw [goL]
theorem mRe_38 {p : Nat} {G : zG} (hV : zV G) {d : Option Nat} (hd : ∀ k, d = some k → k < 12) {x : nz_S} (hz : zM x p G) (c3 : Int32) {b : Nat} (hb : b < G.1) {S : Nat → Bool} (hS : S b = true) (K : Int32 → nz_S → Option (Int32 × nz_S)) : ∀ r i fu, i + r = (G.2.2 b).length → r < fu → f_X8_reached_38 p (oi d) c3 (nI b) fu (bm (rI G d b S i)) (nI i) x (fun u _ y => K u y) = K (bm (rI G d b S (G.2.2 b).length)) x
  | 0, i, fu + 1, e, _ => by
    have h12 := hV.1
    have hlb := hV.l hb
    have e3 : (13 : Int32) + nI b = nI (13 + b) := by rw [show (13 : Int32) = nI 13 from rfl, nI_add]
    have : i = (G.2.2 b).length := by omega
    subst this
    rw [f_X8_reached_38, mHas _ (show b < 12 by omega), z_bnd, show rI G d b S (G.2.2 b).length b = true by unfold rI; rw [hS]; rfl, if_pos rfl, if_neg one0]
    simp only [e3, z_in (show 13 + b < 61 by omega) (by omega), z_chk, z_N (show 13 + b < 2147483648 by omega), hz.c hb]
    rw [if_pos ((z_le (by omega) (by omega)).mpr (Nat.le_refl _))]
  | r + 1, i, fu + 1, e, hf => by
    have h12 := hV.1
    have hlb := hV.l hb
    have hil : i < (G.2.2 b).length := by omega
    have ht := hV.t hb hil
    have htt := hz.t hb hil
    have e3 : (13 : Int32) + nI b = nI (13 + b) := by rw [show (13 : Int32) = nI 13 from rfl, nI_add]
    have e5 : (25 : Int32) + 3 * nI b + nI i = nI (25 + (3 * b + i)) := by
      rw [show (25 : Int32) = nI 25 from rfl, show (3 : Int32) = nI 3 from rfl, pk_mul, nI_add, nI_add, Nat.add_assoc]
    have ih := mRe_38 hV hd hz c3 hb hS K r (i + 1) fu (by omega) (by omega)
    rw [f_X8_reached_38, mHas _ (show b < 12 by omega), z_bnd, show rI G d b S i b = true by unfold rI; rw [hS]; rfl, if_pos rfl, if_neg one0]
    simp only [e3, z_in (show 13 + b < 61 by omega) (by omega), z_chk, z_N (show 13 + b < 2147483648 by omega), hz.c hb]
    rw [if_neg (by rw [z_le (by omega) (by omega)]; omega)]
    simp only [e5, z_in (show 25 + (3 * b + i) < 61 by omega) (by omega), z_chk, z_N (show 25 + (3 * b + i) < 2147483648 by omega), htt, nI_1]
    obtain ⟨t, hte⟩ : ∃ t, t = (G.2.2 b).getD i 0 := ⟨_, rfl⟩
    rw [← hte] at ht ⊢
    by_cases q : d = some t
    · have : bm (rI G d b S i) ||| 0 = bm (rI G d b S (i + 1)) := by
        rw [bm_or0]
        refine bm_ext (fun v _ => ?_)
        unfold rI
        rw [goL_s, ← hte]
        by_cases hv : d = some v
        · rw [decide_eq_true hv]; simp
        · rw [decide_eq_false (show ¬ t = v from fun e => hv (by rw [← e]; exact q)), Bool.or_false]
      rw [if_pos (by rw [q]; rfl), this]
      exact ih
    · have : bm (rI G d b S i) ||| ((1 : Int32) <<< (nI t &&& 31)) = bm (rI G d b S (i + 1)) := by
        rw [bm_one t (by omega), bm_or]
        refine bm_ext (fun v _ => ?_)
        unfold rI
        rw [goL_s, ← hte]
        by_cases hv : v = t
        · rw [hv, decide_eq_false q]; simp
        · rw [decide_eq_false hv, decide_eq_false (show ¬ t = v from fun e => hv e.symm)]; simp
      have hne : ¬ nI t = oi d := by
        cases hdd : d with
        | none => exact z_m9 (by omega)
        | some k =>
          have := hd k hdd
          rw [oi_some, z_eq (by omega) (by omega)]
          intro e2
          exact q (by rw [hdd, e2])
      rw [if_neg hne, this]
      exact ih
theorem mRe_b {p : Nat} {G : zG} (hV : zV G) {d : Option Nat} (hd : ∀ k, d = some k → k < 12) {x : nz_S} (hz : zM x p G) (c3 : Int32) {b : Nat} (hb : b < G.1) (S : Nat → Bool) (K : Int32 → nz_S → Option (Int32 × nz_S)) : f_X8_reached_38 p (oi d) c3 (nI b) nz_F (bm S) 0 x (fun u _ y => K u y) = K (bm (rB G d b S)) x := by
  have h12 := hV.1
  have hlb := hV.l hb
  cases hS : S b with
  | true =>
    have := mRe_38 hV hd hz c3 hb hS K (G.2.2 b).length 0 nz_F (by omega) (by unfold nz_F; omega)
    rw [nI_0, show bm (rI G d b S 0) = bm S from bm_ext (fun v _ => by unfold rI; simp [goL])] at this
    rw [this, show bm (rI G d b S (G.2.2 b).length) = bm (rB G d b S) from bm_ext (fun v _ => by unfold rI rB; rw [hS, Bool.true_and]; rfl)]
  | false =>
    have : bm (rB G d b S) = bm S := bm_ext (fun v _ => by unfold rB; rw [hS]; simp)
    rw [this]
    have hst : ∀ fu, f_X8_reached_38 p (oi d) c3 (nI b) (fu + 1) (bm S) 0 x (fun u _ y => K u y) = K (bm S) x := fun fu => by
      rw [f_X8_reached_38, mHas _ (show b < 12 by omega), z_bnd, hS]
      simp only [Bool.false_eq_true, if_false, if_true]
    exact hst 999
theorem mRe_27 {p : Nat} {G : zG} (hV : zV G) {d : Option Nat} (hd : ∀ k, d = some k → k < 12) {x : nz_S} (hz : zM x p G) (c3 : Int32) (S : Nat → Bool) (K : Int32 → nz_S → Option (Int32 × nz_S)) : ∀ r j fu, j + r = G.1 → r < fu → f_X8_reached_27 p (oi d) c3 fu (bm (rC G d j S)) (nI j) x (fun u _ y => K u y) = K (bm (rC G d G.1 S)) x
  | 0, j, fu + 1, e, _ => by
    have h12 := hV.1
    have e0 : ((0 : Int32)).toNatClampNeg = 0 := rfl
    have : j = G.1 := by omega
    subst this
    rw [f_X8_reached_27]
    simp only [show nz_in 0 61 = true from rfl, z_chk, e0, hz.n]
    rw [if_pos ((z_le (by omega) (by omega)).mpr (Nat.le_refl _))]
  | r + 1, j, fu + 1, e, hf => by
    have h12 := hV.1
    have e0 : ((0 : Int32)).toNatClampNeg = 0 := rfl
    have ih := mRe_27 hV hd hz c3 S K r (j + 1) fu (by omega) (by omega)
    rw [f_X8_reached_27]
    simp only [show nz_in 0 61 = true from rfl, z_chk, e0, hz.n]
    rw [if_neg (by rw [z_le (by omega) (by omega)]; omega)]
    refine (mRe_b hV hd hz c3 (show j < G.1 by omega) (rC G d j S) (fun u y => f_X8_reached_27 p (oi d) c3 fu u (nI j + 1) y (fun u _ y => K u y))).trans ?_
    rw [nI_1]
    exact ih
theorem mRe_18 {p : Nat} {G : zG} (hV : zV G) {d : Option Nat} (hd : ∀ k, d = some k → k < 12) {x : nz_S} (hz : zM x p G) (K : Int32 → nz_S → Option (Int32 × nz_S)) : ∀ n i fu (S : Nat → Bool), i + n = 12 → n < fu → f_X8_reached_18 p (oi d) fu (bm S) (nI i) x (fun u _ y => K u y) = K (bm (rD G d n S)) x
  | 0, i, fu + 1, S, e, _ => by
    have : i = 12 := by omega
    subst this
    rw [f_X8_reached_18, if_pos ge12]; rfl
  | n + 1, i, fu + 1, S, e, hf => by
    have h12 := hV.1
    have ih := mRe_18 hV hd hz K n (i + 1) fu (rC G d G.1 S) (by omega) (by omega)
    rw [f_X8_reached_18, if_neg (lt12 (by omega))]
    have := mRe_27 hV hd hz (nI i) S (fun u y => f_X8_reached_18 p (oi d) fu u (nI i + 1) y (fun u _ y => K u y)) G.1 0 nz_F (by omega) (by unfold nz_F; omega)
    rw [nI_0] at this
    refine this.trans ?_
    rw [nI_1]
    exact ih
theorem mRe {p : Nat} {G : zG} (hV : zV G) {d : Option Nat} (hd : ∀ k, d = some k → k < 12) {x : nz_S} (hz : zM x p G) : f_X8_reached p (oi d) x = some (bm (rch G d), x) := by
  have h12 := hV.1
  have e0 : ((0 : Int32)).toNatClampNeg = 0 := rfl
  have L := mRe_18 hV hd hz (fun u y => some (u, y)) 12 0 nz_F (rS0 G d) (by omega) (by unfold nz_F; omega)
  rw [nI_0] at L
  unfold f_X8_reached
  simp only [show nz_in 0 61 = true from rfl, z_chk, e0, hz.n]
  by_cases h0 : G.1 = 0
  · rw [if_pos (by rw [h0]; rfl)]
    rw [show bm (rS0 G d) = 0 from bm_0.mpr (fun v _ => by unfold rS0; rw [decide_eq_true h0]; simp)] at L
    exact L
  · rw [if_neg (by rw [show (0 : Int32) = nI 0 from rfl, z_eq (by omega) (by omega)]; exact h0)]
    by_cases hq : d = some 0
    · rw [if_pos (by rw [hq]; rfl)]
      rw [show bm (rS0 G d) = 0 from bm_0.mpr (fun v _ => by unfold rS0; rw [decide_eq_true hq]; simp)] at L
      exact L
    · have hne : ¬ oi d = 0 := by
        cases hdd : d with
        | none => decide
        | some k =>
          have := hd k hdd
          rw [oi_some, show (0 : Int32) = nI 0 from rfl, z_eq (by omega) (by omega)]
          intro e
          exact hq (by rw [hdd, e])
      rw [if_neg hne]
      rw [show bm (rS0 G d) = 1 from by
        rw [bm_one0]
        exact bm_ext (fun v _ => by unfold rS0; rw [decide_eq_false h0, decide_eq_false hq]; simp)] at L
      exact L
/-! in the class -/
theorem kRW_16 {G : zG} {D : zD} {x : nz_S} (h15 : ∀ c, c < 12 → x.1 15 c = bm (tg0 G D c)) {d : Nat} (hd : d < 12) (B : Nat → Prop) (hB : ∀ c t, t < 12 → B c → tg0 G D c t = true → t ≠ d → B t) : ∀ n i fu (S T : Nat → Bool), i + n = 12 → n < fu → 12 ≤ fb_ct T 12 + n → (∀ c, c < 12 → T c = true → S c = true ∧ ∀ t, t < 12 → tg0 G D c t = true → t ≠ d → S t = true) → (∀ c, c < 12 → S c = true → B c) → ∃ S', f_X5_reachedWithout_16 (((1 : Int32) <<< (nI d &&& 31)) ^^^ (-1)) fu (bm S) (bm T) (nI i) x (fun u _ _ y => some (u, y)) = some (bm S', x) ∧ (∀ c, c < 12 → S c = true → S' c = true) ∧ (∀ c, c < 12 → S' c = true → ∀ t, t < 12 → tg0 G D c t = true → t ≠ d → S' t = true) ∧ (∀ c, c < 12 → S' c = true → B c)
  | 0, i, fu + 1, S, T, e, _, hc, hT, hSB => by
    have : i = 12 := by omega
    subst this
    have hle := fb_ct_le T 12
    have hall := fb_ct_all.mp (show fb_ct T 12 = 12 by omega)
    refine ⟨S, by rw [f_X5_reachedWithout_16, if_pos ge12], fun c _ h => h, fun c _ _ t ht _ _ => (hT t ht (hall t ht)).1, hSB⟩
  | n + 1, i, fu + 1, S, T, e, hf, hc, hT, hSB => by
    rw [f_X5_reachedWithout_16, if_neg (lt12 (by omega)), bm_dif]
    by_cases ho : lb (fun k => S k && !T k) 12 < 12
    · rw [if_neg (lb12.mp ho), ntz_bm (lb12' ho), z_bnd]
      have hy := lb_yes (fun k => S k && !T k) 12 ho
      obtain ⟨c, hcc⟩ : ∃ c, c = lb (fun k => S k && !T k) 12 := ⟨_, rfl⟩
      rw [← hcc] at ho hy ⊢
      have hy : (S c && !T c) = true := hy
      rw [Bool.and_eq_true, Bool.not_eq_true'] at hy
      simp only [z_in ho (by omega), z_chk, z_N (show c < 2147483648 by omega), h15 c ho, bm_one c ho, bm_one d hd, bm_dif, bm_or, nI_1]
      have hct : 12 ≤ fb_ct (fun k => T k || decide (k = c)) 12 + n := by
        have h1 := fb_ct_upd T true ho
        rw [hy.2] at h1
        simp only [Bool.false_eq_true, if_false, if_true, Nat.add_zero] at h1
        have h2 : fb_ct (fun k => if k = c then true else T k) 12 = fb_ct (fun k => T k || decide (k = c)) 12 := fb_ct_cong (fun k _ => by
          by_cases hk : k = c
          · rw [if_pos hk, decide_eq_true hk, Bool.or_true]
          · rw [if_neg hk, decide_eq_false hk, Bool.or_false])
        omega
      obtain ⟨S', s1, s2, s3, s4⟩ := kRW_16 h15 hd B hB n (i + 1) fu (fun k => S k || (tg0 G D c k && !decide (k = d))) (fun k => T k || decide (k = c)) (by omega) (by omega) hct (fun k hk hkT => by
        rw [Bool.or_eq_true, decide_eq_true_iff] at hkT
        rcases hkT with q | q
        · obtain ⟨a1, a2⟩ := hT k hk q
          exact ⟨by rw [a1]; rfl, fun t ht h1 h2 => by rw [a2 t ht h1 h2]; rfl⟩
        · subst q
          exact ⟨by rw [hy.1]; rfl, fun t ht h1 h2 => by rw [h1, decide_eq_false h2]; simp⟩) (fun k hk hkS => by
        rw [Bool.or_eq_true, Bool.and_eq_true, Bool.not_eq_true', decide_eq_false_iff_not] at hkS
        rcases hkS with q | ⟨q1, q2⟩
        · exact hSB k hk q
        · exact hB c k hk (hSB c ho hy.1) q1 q2)
      have hdd : bm (fun j => decide (j = d)) ^^^ (-1) = bm (fun j => decide (j = d)) ^^^ (-1) := rfl
      rw [bm_one d hd] at s1
      exact ⟨S', s1, fun k hk h => s2 k hk (by rw [h]; rfl), s3, s4⟩
    · have h0 : bm (fun k => S k && !T k) = 0 := by
        by_cases q : bm (fun k => S k && !T k) = 0
        · exact q
        · exact absurd (lb12.mpr q) ho
      rw [if_pos h0]
      have hST : ∀ c, c < 12 → S c = true → T c = true := fun c hc h => by
        have := bm_0.mp h0 c hc
        rw [h, Bool.true_and] at this
        cases e : T c with
        | true => rfl
        | false => rw [e] at this; cases this
      exact ⟨S, rfl, fun c _ h => h, fun c hc h t ht h1 h2 => (hT c hc (hST c hc h)).2 t ht h1 h2, hSB⟩
theorem kRW {G : zG} {D : zD} (hV : zV G) (hF : zF G D) {x : nz_S} (h15 : ∀ c, c < 12 → x.1 15 c = bm (tg0 G D c)) {d : Nat} (hd : od D d = true) : f_X5_reachedWithout (nI d) x = some (bm (rch G (some d)), x) := by
  have h12 := hV.1
  have hdn := hF.lt hd
  have hn : G.1 ≠ 0 := by omega
  obtain ⟨S, s1, s2, s3, s4⟩ := kRW_16 h15 (d := d) (by omega) (fun v => rch G (some d) v = true) (fun c t ht hc htg hne => by
    unfold tg0 at htg
    rw [Bool.and_eq_true] at htg
    exact rch_cl hV (some d) c (hF.lt htg.1) t ht hc htg.2 (fun e => hne (Option.some.inj e).symm)) 12 0 nz_F (fun k => decide (k = 0) && !decide (k = d)) (fun _ => false) (by omega) (by unfold nz_F; omega) (by omega) (fun c _ h => by cases h) (fun c hc h => by
    rw [Bool.and_eq_true, Bool.not_eq_true', decide_eq_true_iff, decide_eq_false_iff_not] at h
    rw [h.1]
    exact rch_0 hn (fun e => h.2 (by rw [h.1]; exact (Option.some.inj e).symm)))
  rw [nI_0, bm_no] at s1
  have e1 : (1 : Int32) &&& (((1 : Int32) <<< (nI d &&& 31)) ^^^ (-1)) = bm (fun k => decide (k = 0) && !decide (k = d)) := by
    have := bm_dif (fun k => decide (k = 0)) (fun k => decide (k = d))
    rw [← bm_one0] at this
    rw [bm_one d (by omega)]
    exact this
  unfold f_X5_reachedWithout
  simp only [e1]
  refine s1.trans ?_
  have : bm S = bm (rch G (some d)) := by
    refine bm_ext (fun v hv => ?_)
    rw [Bool.eq_iff_iff]
    constructor
    · exact s4 v hv
    · intro h
      refine (rch_min (fun v => od D v = true ∧ S v = true) (fun _ h0 => ?_) (fun c t hc hg hne => ?_) v h).2
      · exact ⟨od_ex.mpr ⟨0, hF.ze hn⟩, s2 0 (by omega) (by rw [decide_eq_false (show ¬ 0 = d from fun e => h0 (by rw [e]))]; rfl)⟩
      · have hto := hF.cl c t hc.1 (gGo_mem.mp hg)
        have htn := hF.lt hto
        have hcn := hF.lt hc.1
        refine ⟨hto, s3 c (by omega) hc.2 t (by omega) ?_ (fun e => hne (by rw [e]))⟩
        unfold tg0
        rw [hc.1, hg]; rfl
  rw [this]
/-! ===== passes ===== -/
def pas (G : zG) (D : zD) (d v : Nat) : Bool := od D d && (od D v && !rch G (some d) v)
theorem kPas {G : zG} {D : zD} {W : zW} (hV : zV G) (hF : zF G D) {x : nz_S} (hx : kS x G D W) {d : Nat} (hd : d < 12) : f_X5_passedBy (nI d) x = some (bm (pas G D d), x) := by
  have hO := kHO hx.1 hd (fun k hk => by have := hF.k hV hk; omega)
  unfold f_X5_passedBy
  rw [hO, z_bnd]
  cases e : D.2.1 d with
  | none =>
    rw [Option.isNone_none, if_pos rfl, if_pos rfl]
    rw [show bm (pas G D d) = 0 from bm_0.mpr (fun v _ => by unfold pas; rw [od_no.mpr e]; rfl)]
  | some k =>
    have ho : od D d = true := od_ex.mpr ⟨k, e⟩
    rw [Option.isNone_some, if_neg (by decide), kRW hV hF hx.2.2.2.1 ho, z_bnd, hx.2.1, bm_dif]
    rw [show bm (fun v => od D v && !rch G (some d) v) = bm (pas G D d) from bm_ext (fun v _ => by unfold pas; rw [ho]; rfl)]
theorem mPas {p : Nat} {G : zG} {D : zD} (hV : zV G) (hF : zF G D) {x : nz_S} (hz : zM x p G) {d : Nat} (hd : d < 12) : f_X8_passed p (nI d) x = some (bm (pas G D d), x) := by
  have h1 := mRe hV (d := none) (fun k e => by cases e) hz
  have h2 := mRe hV (d := some d) (fun k e => by have := Option.some.inj e; omega) hz
  rw [oi_none] at h1
  rw [oi_some] at h2
  have hall : bm (rch G none) = bm (od D) := bm_ext (fun v _ => rch_od hV hF)
  unfold f_X8_passed
  rw [h1, z_bnd, hall, mHas _ hd, z_bnd]
  cases e : od D d with
  | false =>
    simp only [Bool.false_eq_true, if_false, if_true]
    rw [show bm (pas G D d) = 0 from bm_0.mpr (fun v _ => by unfold pas; rw [e]; rfl)]
  | true =>
    simp only [if_true, one0, if_false]
    rw [h2, z_bnd, bm_dif]
    rw [show bm (fun v => od D v && !rch G (some d) v) = bm (pas G D d) from bm_ext (fun v _ => by unfold pas; rw [e]; rfl)]
/-! ===== tame ===== -/
def anyN (P : Nat → Bool) : Nat → Bool
  | 0 => false
  | n + 1 => anyN P n || P n
theorem anyN_ex (P : Nat → Bool) : ∀ n, anyN P n = true ↔ ∃ k, k < n ∧ P k = true
  | 0 => by simp [anyN]
  | n + 1 => by
    rw [anyN, Bool.or_eq_true, anyN_ex P n]
    constructor
    · rintro (⟨k, h1, h2⟩ | h)
      · exact ⟨k, by omega, h2⟩
      · exact ⟨n, by omega, h⟩
    · rintro ⟨k, h1, h2⟩
      by_cases hk : k = n
      · subst hk; exact Or.inr h2
      · exact Or.inl ⟨k, by omega, h2⟩
def bdW (G : zG) (D : zD) (w : Nat) : Bool := od D w && !decide (bm (fun v => bk0 G D w v && !pas G D w v) = 0)
def tme (G : zG) (D : zD) : Bool := !anyN (bdW G D) G.1
theorem kTam_2 {G : zG} {D : zD} {W : zW} (hV : zV G) (hF : zF G D) {x : nz_S} (hx : kS x G D W) : ∀ r p fu, p + r = D.1 → r < fu → (∀ k, k < p → bdW G D (D.2.2.2 k) = false) → f_X5_isTame_2 fu (nI p) x (fun _ y => some (1, y)) = some (if tme G D then 1 else 0, x)
  | 0, p, fu + 1, e, _, h => by
    have h12 := hV.1
    have hle := hF.I.le
    have : p = D.1 := by omega
    subst this
    rw [f_X5_isTame_2, hx.1.1, if_pos ((z_le (by omega) (by omega)).mpr (Nat.le_refl _))]
    have : tme G D = true := by
      unfold tme
      cases ea : anyN (bdW G D) G.1 with
      | false => rfl
      | true =>
        obtain ⟨w, -, hw⟩ := (anyN_ex _ _).mp ea
        have ho : od D w = true := by
          unfold bdW at hw
          rw [Bool.and_eq_true] at hw
          exact hw.1
        have h2 := h (rk D w) (rk_at hF ho).2.1
        rw [(rk_at hF ho).2.2, hw] at h2
        cases h2
    rw [this, if_pos rfl]
  | r + 1, p, fu + 1, e, hf, h => by
    have h12 := hV.1
    have hle := hF.I.le
    have hp : p < D.1 := by omega
    have hb := hF.I.at_lt hp
    have hw := hF.I.2 p hp
    have ho : od D (D.2.2.2 p) = true := od_ex.mpr ⟨p, hw⟩
    obtain ⟨w, hwe⟩ : ∃ w, w = D.2.2.2 p := ⟨_, rfl⟩
    have next : bdW G D w = false → f_X5_isTame_2 fu (nI (p + 1)) x (fun _ y => some (1, y)) = some (if tme G D then 1 else 0, x) := fun hq => kTam_2 hV hF hx r (p + 1) fu (by omega) (by omega) (fun k hk => by
      by_cases hkp : k = p
      · rw [hkp, ← hwe]; exact hq
      · exact h k (by omega))
    rw [f_X5_isTame_2, hx.1.1, if_neg (by rw [z_le (by omega) (by omega)]; omega)]
    rw [← hwe] at hb ho
    simp only [z_in (show p < 12 by omega) (by omega), z_chk, z_N (show p < 2147483648 by omega), hx.1.2.2.1 p hp, ← hwe, z_in (show w < 12 by omega) (by omega), z_N (show w < 2147483648 by omega), hx.2.2.2.2.1 w (show w < 12 by omega), nI_1, kPas hV hF hx (show w < 12 by omega), z_bnd, bm_dif]
    by_cases q0 : bm (bk0 G D w) = 0
    · rw [if_pos q0]
      refine next ?_
      unfold bdW
      rw [decide_eq_true (show bm (fun v => bk0 G D w v && !pas G D w v) = 0 from bm_0.mpr (fun v hv => by rw [bm_0.mp q0 v hv]; rfl))]
      simp
    · rw [if_neg q0]
      by_cases q1 : bm (fun v => bk0 G D w v && !pas G D w v) = 0
      · rw [if_pos q1]
        refine next ?_
        unfold bdW
        rw [decide_eq_true q1]; simp
      · rw [if_neg q1]
        have : tme G D = false := by
          unfold tme
          rw [(anyN_ex (bdW G D) G.1).mpr ⟨w, hb, by unfold bdW; rw [ho, decide_eq_false q1]; rfl⟩]; rfl
        rw [this, if_neg (by decide)]
theorem kTam {G : zG} {D : zD} {W : zW} (hV : zV G) (hF : zF G D) {x : nz_S} (hx : kS x G D W) : f_X5_isTame x = some (if tme G D then 1 else 0, x) := by
  have h12 := hV.1
  have hle := hF.I.le
  exact kTam_2 hV hF hx D.1 0 nz_F (by omega) (by unfold nz_F; omega) (fun k hk => absurd hk (Nat.not_lt_zero k))
theorem mTam_4 {q : Nat} {G : zG} {D : zD} (hV : zV G) (hF : zF G D) {x : nz_S} (hw : mW x D) (hz : zM x q G) (K : Int32 → nz_S → Option (Int32 × nz_S)) : ∀ r j fu, j + r = G.1 → r < fu → f_X8_isTame_4 q fu (if anyN (bdW G D) j then 0 else 1) (nI j) x (fun u _ y => K u y) = K (if tme G D then 1 else 0) x
  | 0, j, fu + 1, e, _ => by
    have h12 := hV.1
    have e0 : ((0 : Int32)).toNatClampNeg = 0 := rfl
    have : j = G.1 := by omega
    subst this
    rw [f_X8_isTame_4]
    simp only [show nz_in 0 61 = true from rfl, z_chk, e0, hz.n]
    rw [if_pos ((z_le (by omega) (by omega)).mpr (Nat.le_refl _))]
    unfold tme
    cases anyN (bdW G D) G.1 <;> rfl
  | r + 1, j, fu + 1, e, hf => by
    have h12 := hV.1
    have e0 : ((0 : Int32)).toNatClampNeg = 0 := rfl
    have hj : j < 12 := by omega
    have ih := mTam_4 hV hF hw hz K r (j + 1) fu (by omega) (by omega)
    rw [anyN] at ih
    rw [f_X8_isTame_4]
    simp only [show nz_in 0 61 = true from rfl, z_chk, e0, hz.n]
    rw [if_neg (by rw [z_le (by omega) (by omega)]; omega)]
    simp only [z_in hj (by omega), z_N (show j < 2147483648 by omega), z_chk, hw.2.1 j hj, nI_1, mPas hV hF hz hj, z_bnd, mBacks hV hF hj hw hz, bm_dif]
    cases ho : D.2.1 j with
    | none =>
      have hb : bdW G D j = false := by unfold bdW; rw [od_no.mpr ho]; rfl
      rw [hb, Bool.or_false] at ih
      rw [oi_none, if_pos rfl]
      cases ea : anyN (bdW G D) j with
      | true =>
        rw [ea] at ih
        simp only [if_true] at ih ⊢
        exact ih
      | false =>
        rw [ea] at ih
        have z : (0 : Int32) &&& (bm (pas G D j) ^^^ (-1)) = 0 := by
          rw [← bm_no, bm_dif]
          exact bm_ext (fun v _ => rfl)
        simp only [Bool.false_eq_true, if_false, one0, z, if_true] at ih ⊢
        exact ih
    | some k =>
      have hk := hF.k hV ho
      rw [oi_some, if_neg (z_m9 (by omega))]
      cases ea : anyN (bdW G D) j with
      | true =>
        rw [ea, Bool.true_or] at ih
        simp only [if_true] at ih ⊢
        exact ih
      | false =>
        rw [ea, Bool.false_or] at ih
        simp only [Bool.false_eq_true, if_false, one0]
        by_cases q1 : bm (fun v => bk0 G D j v && !pas G D j v) = 0
        · rw [if_pos q1]
          rw [show bdW G D j = false by unfold bdW; rw [decide_eq_true q1]; simp, if_neg (by decide)] at ih
          exact ih
        · rw [if_neg q1]
          rw [show bdW G D j = true by unfold bdW; rw [decide_eq_false q1, od_ex.mpr ⟨k, ho⟩]; rfl, if_pos rfl] at ih
          exact ih
theorem mTam {q : Nat} {G : zG} {D : zD} (hV : zV G) (hF : zF G D) {x : nz_S} (hw : mW x D) (hz : zM x q G) : f_X8_isTame q x = some (if tme G D then 1 else 0, x) := by
  have h12 := hV.1
  have := mTam_4 hV hF hw hz (fun u25 x24 => nz_chk (nz_bo u25) (some (u25, x24))) G.1 0 nz_F (by omega) (by unfold nz_F; omega)
  rw [show anyN (bdW G D) 0 = false from rfl, if_neg (by decide), nI_0] at this
  refine this.trans ?_
  rw [bo_if, z_chk]
