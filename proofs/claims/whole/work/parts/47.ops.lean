theorem one0 : ¬ (1 : Int32) = 0 := by decide
/-! ===== ADDED ===== -/
theorem kAppend {x : nz_S} {g : Nat} {G : zG} (h : zK x g G) (hV : zV G) (v w : Int32) (hv : ib v G.1) (hw : ib w G.1) : ∃ b t, b < G.1 ∧ t < G.1 ∧ v = nI b ∧ w = nI t ∧ ((G.2.2 b).length < 3 → ∃ y, f_X0_appendArc g v w x = some (nI ((G.2.2 b).length + 1), y) ∧ zK y g (gAdd G b t) ∧ zV (gAdd G b t) ∧ (∀ c, c ≠ g + 2 → c ≠ g + 3 → y.1 c = x.1 c) ∧ y.2 = x.2) ∧ (¬ (G.2.2 b).length < 3 → f_X0_appendArc g v w x = some (-4, x)) := by
  have hn := hV.1
  obtain ⟨b, hb, rfl⟩ := ib_ex hv
  obtain ⟨t, ht, rfl⟩ := ib_ex hw
  have hl := hV.l hb
  have k1 : (0 ≤ (nI b).toInt ∧ (nI b).toInt < (G.1 : Int)) := hv
  have k2 : (0 ≤ (nI t).toInt ∧ (nI t).toInt < (G.1 : Int)) := hw
  refine ⟨b, t, hb, ht, rfl, rfl, fun hc => ?_, fun hc => ?_⟩
  · have k3 : nI (G.2.2 b).length < 3 := (z_lt (b := 3) (by omega) (by omega)).mpr hc
    refine ⟨_, ?_, kAddG h hV (t := t) hb hc, gAdd_V hV hb ht hc, ?_, ?_⟩
    · simp only [f_X0_appendArc, kHB h hV, k1, k2, and_self, if_true, z_bnd, one0, if_false, z_in (show b < 12 by omega) (by omega), z_chk, z_N (show b < 2147483648 by omega), h.c hb, k3, kPut (show b < 12 by omega) hc (h.c hb)]
      rw [z_put1, if_pos rfl, z_upd, if_pos rfl]
    · intro c h1 h2
      rw [z_put1, if_neg h1, z_put1, if_neg h2]
    · rfl
  · have k3 : ¬ nI (G.2.2 b).length < 3 := by rw [show (3 : Int32) = nI 3 from rfl, z_lt (by omega) (by omega)]; exact hc
    simp only [f_X0_appendArc, kHB h hV, k1, k2, and_self, if_true, z_bnd, one0, if_false, z_in (show b < 12 by omega) (by omega), z_chk, z_N (show b < 2147483648 by omega), h.c hb, k3]
theorem kAppendU {x : nz_S} {g : Nat} {G : zG} (h : zK x g G) (hV : zV G) (v w : Int32) (hn : ¬ (ib v G.1 ∧ ib w G.1)) : f_X0_appendArc g v w x = some (-1, x) := by
  by_cases h1 : (0 ≤ v.toInt ∧ v.toInt < (G.1 : Int))
  · have h2 : ¬ (0 ≤ w.toInt ∧ w.toInt < (G.1 : Int)) := fun q => hn ⟨h1, q⟩
    simp only [f_X0_appendArc, kHB h hV, if_pos h1, if_neg h2, z_bnd, one0, if_false, if_true]
  · simp only [f_X0_appendArc, kHB h hV, if_neg h1, z_bnd, if_true]
theorem settleN (v : Int32) (hv : v < 0) (x : nz_S) : f_X7_settle v x = some (v, x) := by
  simp only [f_X7_settle, hv, if_true]
theorem zK_eq {x y : nz_S} {g : Nat} {G : zG} (h : zK x g G) (he : ∀ c, g ≤ c ∧ c ≤ g + 3 → y.1 c = x.1 c) : zK y g G := by
  unfold zK
  rw [he g (by omega), he (g + 1) (by omega), he (g + 2) (by omega), he (g + 3) (by omega)]
  exact h
theorem zM_eq {x y : nz_S} {p : Nat} {G : zG} (h : zM x p G) (he : y.1 p = x.1 p) : zM y p G := by
  unfold zM
  rw [he]
  exact h
theorem kTry {a : nz_S} {G : zG} (hV : zV G) (hk : zK a 3 G) : ∃ a1, f_X0_copyFrom 7 3 a = some ((), a1) ∧ zK a1 7 G ∧ zK a1 3 G ∧ eK a a1 := by
  obtain ⟨a1, t1, t2, t3, t4⟩ := kCopyG (g := 7) (g2 := 3) (by omega) hV hk
  exact ⟨a1, t1, t2, zK_eq hk (fun c hc => t3 c (by omega)), fun c hc => t3 c (by omega), t4⟩
theorem sim_add (v w : Int32) (a b : nz_S) (h : zR a b) : nz_both zR (f_X7_add v w a) (f_X8_add v w b) := by
  obtain ⟨-, ⟨G, hV, hk, hm⟩, -⟩ := id h
  have hk : zK a 3 G := hk
  have hm : zM b 3 G := hm
  have hn := hV.1
  have em : eM b (nz_put b 0 0 0) := eM_put0 _ _ _ (by omega)
  have hm0 : zM (nz_put b 0 0 0) 3 G := zM_eq hm (em.1 3 (by omega))
  obtain ⟨a1, t1, t2, t3, t4⟩ := kTry hV hk
  by_cases hc : ib v G.1 ∧ ib w G.1
  · obtain ⟨c, t, hc1, ht1, rfl, rfl, hyes, hno⟩ := kAppend t2 hV v w hc.1 hc.2
    have hl := hV.l hc1
    have k1 : (0 ≤ (nI c).toInt ∧ (nI c).toInt < (G.1 : Int)) := hc.1
    have k2 : (0 ≤ (nI t).toInt ∧ (nI t).toInt < (G.1 : Int)) := hc.2
    have e3 : (13 : Int32) + nI c = nI (13 + c) := by rw [show (13 : Int32) = nI 13 from rfl, nI_add]
    by_cases hf : (G.2.2 c).length < 3
    · obtain ⟨y, y1, y2, y3, y4, y5⟩ := hyes hf
      have ey : eK a y := t4.tr ⟨fun d hd => y4 d (by omega) (by omega), y5⟩
      obtain ⟨a', s1, b1, s2, s3, s4⟩ := doing h em hV hk hm ey y3 y2 (r := (G.2.2 c).length + 1) (by omega)
      obtain ⟨u1, u2⟩ := mAddG s3 hV (t := t) hc1 hf
      have k3 : ¬ nI (G.2.2 c).length = 3 := by rw [show (3 : Int32) = nI 3 from rfl, z_eq (by omega) (by omega)]; omega
      refine ⟨nI ((G.2.2 c).length + 1), a', _, ?_, ?_, s4 _ (fun d hd => ?_) ?_ u2⟩
      · simp only [f_X7_add, t1, y1, s1, z_bnd]
      · simp only [f_X8_add, mNB hm0 hV, k1, k2, and_self, if_true, z_bnd, e3, z_in (show 13 + c < 61 by omega) (by omega), z_chk, z_N (show 13 + c < 2147483648 by omega), hm0.c hc1, k3, if_false, s2, u1]
        rw [z_put1, if_pos rfl, z_upd, if_pos rfl]
      · rw [z_put1, if_neg hd, z_put1, if_neg hd]
      · rfl
    · have k3 : nI (G.2.2 c).length = 3 := by rw [show (3 : Int32) = nI 3 from rfl, z_eq (by omega) (by omega)]; omega
      refine ⟨-4, a1, nz_put b 0 0 0, ?_, ?_, h.eq t4 em⟩
      · simp only [f_X7_add, t1, hno hf, z_bnd, settleN (-4) (by decide)]
      · simp only [f_X8_add, mNB hm0 hV, k1, k2, and_self, if_true, z_bnd, e3, z_in (show 13 + c < 61 by omega) (by omega), z_chk, z_N (show 13 + c < 2147483648 by omega), hm0.c hc1, k3]
  · refine ⟨-1, a1, nz_put b 0 0 0, ?_, ?_, h.eq t4 em⟩
    · simp only [f_X7_add, t1, kAppendU t2 hV v w hc, z_bnd, settleN (-1) (by decide)]
    · by_cases h1 : (0 ≤ v.toInt ∧ v.toInt < (G.1 : Int))
      · have h2 : ¬ (0 ≤ w.toInt ∧ w.toInt < (G.1 : Int)) := fun q => hc ⟨h1, q⟩
        simp only [f_X8_add, mNB hm0 hV, if_pos h1, if_neg h2, z_bnd, if_true, one0, if_false]
      · simp only [f_X8_add, mNB hm0 hV, if_neg h1, z_bnd, one0, if_false]
/-! ===== CUT ===== -/
theorem hm_ne {i : Nat} (hi : i < 3) : ∀ k, k < 3 → (((((1 : Int32) <<< (nI i &&& 31)) ^^^ (-1)) >>> (nI k &&& 31)) &&& 1 = 0 ↔ (fun k => decide (k ≠ i)) k = false) := by
  have : ∀ i, i < 3 → ∀ k, k < 3 → (((((1 : Int32) <<< (nI i &&& 31)) ^^^ (-1)) >>> (nI k &&& 31)) &&& 1 = 0 ↔ (fun k => decide (k ≠ i)) k = false) := by decide +kernel
  exact this i hi
def gCut (G : zG) (b i : Nat) : zG := gSet G b (wl (fun k => decide (k ≠ i)) (G.2.2 b) (G.2.2 b).length)
theorem gCut_V {G : zG} (hV : zV G) {b : Nat} (hb : b < G.1) (i : Nat) : zV (gCut G b i) :=
  gSet_V hV (Nat.le_trans (wl_len _ _ _) (hV.l hb)) (fun t ht => (hV.2 b hb).2 t (wl_mem _ (Nat.le_refl _) ht))
theorem kDrop {x : nz_S} {g : Nat} {G : zG} (h : zK x g G) (hV : zV G) {b i : Nat} (hb : b < G.1) (hi : i < (G.2.2 b).length) : ∃ y, f_X0_dropArc g (nI b) (nI i) x = some (nI ((G.2.2 b).getD i 0), y) ∧ zK y g (gCut G b i) ∧ (∀ c, c ≠ g + 2 → c ≠ g + 3 → y.1 c = x.1 c) ∧ y.2 = x.2 := by
  have hl := hV.l hb
  obtain ⟨y, y1, y2, y3, y4⟩ := kKeep h hV hb (hm_ne (i := i) (by omega))
  refine ⟨y, ?_, y2, y3, y4⟩
  have hA : hasA G (nI b) (nI i) = true := (hasA_ex hV).mpr ⟨b, i, hb, hi, rfl, rfl⟩
  simp only [f_X0_dropArc, kHA h hV, hA, if_true, z_bnd, one0, if_false, kTG h hV hb hi, y1]
theorem kDropU {x : nz_S} {g : Nat} {G : zG} (h : zK x g G) (hV : zV G) {v w : Int32} (hA : hasA G v w = false) : f_X0_dropArc g v w x = some (-1, x) := by
  simp only [f_X0_dropArc, kHA h hV, hA, Bool.false_eq_true, if_true, z_bnd, if_false]
theorem sim_cut (v w : Int32) (a b : nz_S) (h : zR a b) : nz_both zR (f_X7_cut v w a) (f_X8_cut v w b) := by
  obtain ⟨-, ⟨G, hV, hk, hm⟩, -⟩ := id h
  have hk : zK a 3 G := hk
  have hm : zM b 3 G := hm
  have hn := hV.1
  have em : eM b (nz_put b 0 0 0) := eM_put0 _ _ _ (by omega)
  have hm0 : zM (nz_put b 0 0 0) 3 G := zM_eq hm (em.1 3 (by omega))
  obtain ⟨a1, t1, t2, t3, t4⟩ := kTry hV hk
  cases hc : hasA G v w with
  | true =>
    obtain ⟨c, i, hc1, hi, rfl, rfl⟩ := (hasA_ex hV).mp hc
    have hl := hV.l hc1
    have ht := hV.t hc1 hi
    obtain ⟨y, y1, y2, y4, y5⟩ := kDrop t2 hV hc1 hi
    have ey : eK a y := t4.tr ⟨fun d hd => y4 d (by omega) (by omega), y5⟩
    obtain ⟨a', s1, b1, s2, s3, s4⟩ := doing h em hV hk hm ey (gCut_V hV hc1 i) y2 (r := (G.2.2 c).getD i 0) (by omega)
    obtain ⟨z, u1, u2, u3, u4⟩ := mCut s3 hV hc1 hi
    refine ⟨nI ((G.2.2 c).getD i 0), a', z, ?_, ?_, s4 _ u3 u4 u2⟩
    · simp only [f_X7_cut, t1, y1, s1, z_bnd]
    · simp only [f_X8_cut, mNA hm0 hV, hc, if_true, z_bnd, s2, u1]
  | false =>
    refine ⟨-1, a1, nz_put b 0 0 0, ?_, ?_, h.eq t4 em⟩
    · simp only [f_X7_cut, t1, kDropU t2 hV hc, z_bnd, settleN (-1) (by decide)]
    · simp only [f_X8_cut, mNA hm0 hV, hc, Bool.false_eq_true, if_false, z_bnd, one0]
/-! ===== whether an arc goes ===== -/
def goL (l : List Nat) (t : Nat) : Nat → Bool
  | 0 => false
  | i + 1 => goL l t i || decide (l.getD i 0 = t)
theorem goL_ex (l : List Nat) (t : Nat) : ∀ n, goL l t n = true ↔ ∃ i, i < n ∧ l.getD i 0 = t
  | 0 => by simp [goL]
  | n + 1 => by
    rw [goL, Bool.or_eq_true, goL_ex l t n, decide_eq_true_iff]
    constructor
    · rintro (⟨i, h1, h2⟩ | h)
      · exact ⟨i, by omega, h2⟩
      · exact ⟨n, by omega, h⟩
    · rintro ⟨i, h1, h2⟩
      by_cases hi : i = n
      · subst hi; exact Or.inr h2
      · exact Or.inl ⟨i, by omega, h2⟩
def gGo (G : zG) (b t : Nat) : Bool := goL (G.2.2 b) t (G.2.2 b).length
theorem gGo_mem {G : zG} {b t : Nat} : gGo G b t = true ↔ t ∈ G.2.2 b := by
  unfold gGo
  rw [goL_ex]
  constructor
  · rintro ⟨i, h1, rfl⟩
    rw [List.getD_eq_getElem?_getD, List.getElem?_eq_getElem h1]
    exact List.getElem_mem h1
  · intro h
    obtain ⟨i, h1, h2⟩ := List.mem_iff_getElem.mp h
    exact ⟨i, h1, by rw [List.getD_eq_getElem?_getD, List.getElem?_eq_getElem h1]; exact h2⟩
theorem kGoes_2 {x : nz_S} {g : Nat} {G : zG} (h : zK x g G) (hV : zV G) {b t : Nat} (hb : b < G.1) (ht : t < 100) : ∀ r i fu, i + r = (G.2.2 b).length → r < fu → goL (G.2.2 b) t i = false → f_X0_goesTo_2 g (nI b) (nI t) fu (nI i) x (fun u9 x8 => some (0, x8)) = some (if gGo G b t then 1 else 0, x)
  | 0, i, fu + 1, e, _, hg => by
    have hn := hV.1
    have hl := hV.l hb
    have : i = (G.2.2 b).length := by omega
    subst this
    rw [f_X0_goesTo_2]
    simp only [z_in (show b < 12 by omega) (by omega), z_chk, z_N (show b < 2147483648 by omega), h.c hb]
    rw [if_pos ((z_le (by omega) (by omega)).mpr (Nat.le_refl _)), show gGo G b t = false from hg]
    rfl
  | r + 1, i, fu + 1, e, hf, hg => by
    have hn := hV.1
    have hl := hV.l hb
    have htt := hV.t hb (show i < (G.2.2 b).length by omega)
    rw [f_X0_goesTo_2]
    simp only [z_in (show b < 12 by omega) (by omega), z_chk, z_N (show b < 2147483648 by omega), h.c hb]
    rw [if_neg (by rw [z_le (by omega) (by omega)]; omega), kTG h hV hb (by omega), z_bnd]
    by_cases hq : (G.2.2 b).getD i 0 = t
    · rw [if_pos (by rw [hq]), show gGo G b t = true from (goL_ex _ _ _).mpr ⟨i, by omega, hq⟩]
      rfl
    · rw [if_neg (by rw [z_eq (by omega) (by omega)]; exact hq)]
      simp only [nI_1]
      exact kGoes_2 h hV hb ht r (i + 1) fu (by omega) (by omega) (by rw [goL, hg, Bool.false_or]; exact decide_eq_false hq)
theorem kGoes {x : nz_S} {g : Nat} {G : zG} (h : zK x g G) (hV : zV G) {b t : Nat} (hb : b < G.1) (ht : t < 100) : f_X0_goesTo g (nI b) (nI t) x = some (if gGo G b t then 1 else 0, x) := by
  have hl := hV.l hb
  have := kGoes_2 h hV hb ht (G.2.2 b).length 0 nz_F (by omega) (by unfold nz_F; omega) rfl
  rw [nI_0] at this
  exact this
theorem mGoes_5 {x : nz_S} {p : Nat} {G : zG} (h : zM x p G) (hV : zV G) {b t : Nat} (hb : b < G.1) (ht : t < 100) (K : Int32 → Int32 → nz_S → Option (Int32 × nz_S)) : ∀ r i fu, i + r = (G.2.2 b).length → r < fu → f_X8_goes_5 p (nI b) (nI t) fu (if goL (G.2.2 b) t i then 1 else 0) (nI i) x K = K (if gGo G b t then 1 else 0) (nI (G.2.2 b).length) x
  | 0, i, fu + 1, e, _ => by
    have hn := hV.1
    have hl := hV.l hb
    have e3 : (13 : Int32) + nI b = nI (13 + b) := by rw [show (13 : Int32) = nI 13 from rfl, nI_add]
    have : i = (G.2.2 b).length := by omega
    subst this
    rw [f_X8_goes_5]
    simp only [e3, z_in (show 13 + b < 61 by omega) (by omega), z_chk, z_N (show 13 + b < 2147483648 by omega), h.c hb]
    rw [if_pos ((z_le (by omega) (by omega)).mpr (Nat.le_refl _))]
    rfl
  | r + 1, i, fu + 1, e, hf => by
    have hn := hV.1
    have hl := hV.l hb
    have htt := hV.t hb (show i < (G.2.2 b).length by omega)
    have e3 : (13 : Int32) + nI b = nI (13 + b) := by rw [show (13 : Int32) = nI 13 from rfl, nI_add]
    have e5 : (25 : Int32) + 3 * nI b + nI i = nI (25 + (3 * b + i)) := by
      rw [show (25 : Int32) = nI 25 from rfl, show (3 : Int32) = nI 3 from rfl, pk_mul, nI_add, nI_add, Nat.add_assoc]
    have ih := mGoes_5 h hV hb ht K r (i + 1) fu (by omega) (by omega)
    rw [goL] at ih
    rw [f_X8_goes_5]
    simp only [e3, z_in (show 13 + b < 61 by omega) (by omega), z_chk, z_N (show 13 + b < 2147483648 by omega), h.c hb]
    rw [if_neg (by rw [z_le (by omega) (by omega)]; omega)]
    cases hg : goL (G.2.2 b) t i with
    | true =>
      rw [hg, Bool.true_or] at ih
      simp only [if_true, one0, if_false, nI_1] at ih ⊢
      exact ih
    | false =>
      rw [hg, Bool.false_or] at ih
      simp only [Bool.false_eq_true, if_false, if_true, e5, z_in (show 25 + (3 * b + i) < 61 by omega) (by omega), z_chk, z_N (show 25 + (3 * b + i) < 2147483648 by omega), h.t hb (show i < (G.2.2 b).length by omega), nI_1]
      by_cases hq : (G.2.2 b).getD i 0 = t
      · rw [if_pos (by rw [hq])]
        rw [decide_eq_true hq, if_pos rfl] at ih
        exact ih
      · rw [if_neg (by rw [z_eq (by omega) (by omega)]; exact hq)]
        rw [decide_eq_false hq, if_neg (by decide)] at ih
        exact ih
theorem bo_if (c : Bool) : nz_bo (if c then 1 else 0) = true := by cases c <;> rfl
theorem mGoes {x : nz_S} {p : Nat} {G : zG} (h : zM x p G) (hV : zV G) {b t : Nat} (hb : b < G.1) (ht : t < 100) : f_X8_goes p (nI b) (nI t) x = some (if gGo G b t then 1 else 0, x) := by
  have hl := hV.l hb
  have := mGoes_5 h hV hb ht (fun u12 u13 x11 => nz_chk (nz_bo u12) (some (u12, x11))) (G.2.2 b).length 0 nz_F (by omega) (by unfold nz_F; omega)
  rw [nI_0, show goL (G.2.2 b) t 0 = false from rfl, if_neg (by decide)] at this
  refine this.trans ?_
  rw [bo_if, z_chk]
