/-! ===== what stays true of headers while loops are gathered ===== -/
def zU (D : zD) (p : Nat) (W : zW) : Prop := (∀ b h, W.1 b = some h → ∃ kb kh, D.2.1 b = some kb ∧ D.2.1 h = some kh ∧ p ≤ kh ∧ kh < kb) ∧ (∀ c v, W.2.2 c v = true → od D v = true) ∧ (∀ c, W.2.1 c ≤ 3) ∧ (∀ c, W.2.1 c ≠ 0 → ∃ k, D.2.1 c = some k ∧ p ≤ k)
theorem zU.lt {G : zG} {D : zD} {p : Nat} {W : zW} (hV : zV G) (hF : zF G D) (h : zU D p W) : ∀ b k, W.1 b = some k → k < 12 := by
  intro b k e
  obtain ⟨kb, kh, h1, h2, h3, h4⟩ := h.1 b k e
  have := (hF.I.1 k kh h2).1
  have := hV.1
  omega
def rk (D : zD) (b : Nat) : Nat := (D.2.1 b).getD 0
theorem zU.dk {D : zD} {p : Nat} {W : zW} (h : zU D p W) : ∀ b k, W.1 b = some k → rk D k < rk D b := by
  intro b k e
  obtain ⟨kb, kh, h1, h2, h3, h4⟩ := h.1 b k e
  unfold rk
  rw [h1, h2]; exact h4
theorem rk_lt {G : zG} {D : zD} (hV : zV G) (hF : zF G D) (b : Nat) : rk D b ≤ 12 := by
  have h12 := hV.1
  have hle := hF.I.le
  unfold rk
  cases h : D.2.1 b with
  | none => exact Nat.zero_le _
  | some k => have := (hF.I.1 b k h).2.1; show k ≤ 12; omega
theorem zU.ldr {D : zD} {p : Nat} {W : zW} (h : zU D p W) : ∀ n b, od D b = true → ldrN W.1 n b = b ∨ ∃ k, D.2.1 (ldrN W.1 n b) = some k ∧ p ≤ k
  | 0, b, _ => Or.inl rfl
  | n + 1, b, hb => by
    cases e : W.1 b with
    | none => exact Or.inl (ldrN_n e)
    | some t =>
      obtain ⟨kb, kh, h1, h2, h3, h4⟩ := h.1 b t e
      rw [ldrN_s e]
      rcases zU.ldr h n t (od_ex.mpr ⟨kh, h2⟩) with q | q
      · rw [q]; exact Or.inr ⟨kh, h2, h3⟩
      · exact Or.inr q
theorem zU.lod {D : zD} {p : Nat} {W : zW} (h : zU D p W) {n b : Nat} (hb : od D b = true) : od D (ldrN W.1 n b) = true := by
  rcases h.ldr n b hb with q | ⟨k, q, -⟩
  · rw [q]; exact hb
  · exact od_ex.mpr ⟨k, q⟩
theorem abv_od {D : zD} {w v p : Nat} (hp : D.2.1 w = some p) (h : abv D w v = true) : ∃ k, D.2.1 v = some k ∧ p ≤ k := by
  unfold abv at h
  rw [hp] at h
  cases hv : D.2.1 v with
  | none => rw [hv] at h; cases h
  | some k =>
    rw [hv] at h
    cases hz : D.2.2.1 w with
    | none => rw [hz] at h; cases h
    | some z =>
      rw [hz] at h
      simp only [Bool.and_eq_true, decide_eq_true_iff] at h
      exact ⟨k, rfl, h.1⟩
theorem od_ne {G : zG} {D : zD} (hI : zI G D) {w v p k : Nat} (hp : D.2.1 w = some p) (hk : D.2.1 v = some k) (hn : v ≠ w) : k ≠ p := by
  intro e
  have h1 := (hI.1 w p hp).2.2
  have h2 := (hI.1 v k hk).2.2
  rw [e] at h2
  exact hn (h2.symm.trans h1)
theorem gSt_1 (D : zD) (H : Nat → Option Nat) (En : Nat → Nat → Bool) (w : Nat) (s : zB) (u : Nat) : (gSt D H En w s).1 u = (s.1 u || (lds H (En (lb (opn s) 12)) 12 u && abv D w u && !decide (u = w))) := by simp only [gSt]
theorem gSt_2 (D : zD) (H : Nat → Option Nat) (En : Nat → Nat → Bool) (w : Nat) (s : zB) (u : Nat) : (gSt D H En w s).2.1 u = (s.2.1 u || decide (u = lb (opn s) 12)) := by simp only [gSt]
theorem gSt_3 (D : zD) (H : Nat → Option Nat) (En : Nat → Nat → Bool) (w : Nat) (s : zB) (u : Nat) : (gSt D H En w s).2.2.1 u = (s.2.2.1 u || (lds H (En (lb (opn s) 12)) 12 u && !abv D w u)) := by simp only [gSt]
theorem gSt_4 (D : zD) (H : Nat → Option Nat) (En : Nat → Nat → Bool) (w : Nat) (s : zB) : (gSt D H En w s).2.2.2 = if strg D H (En (lb (opn s) 12)) w 12 then 3 else s.2.2.2 := by simp only [gSt]
theorem gLp_0 (D : zD) (H : Nat → Option Nat) (En : Nat → Nat → Bool) (w : Nat) (s : zB) : gLp D H En w 0 s = s := rfl
theorem gLp_y {D : zD} {H : Nat → Option Nat} {En : Nat → Nat → Bool} {w n : Nat} {s : zB} (h : lb (opn s) 12 < 12) : gLp D H En w (n + 1) s = gLp D H En w n (gSt D H En w s) := by rw [gLp, if_pos h]
theorem gLp_n {D : zD} {H : Nat → Option Nat} {En : Nat → Nat → Bool} {w n : Nat} {s : zB} (h : ¬ lb (opn s) 12 < 12) : gLp D H En w (n + 1) s = s := by rw [gLp, if_neg h]
theorem gLp_bd {D : zD} {H : Nat → Option Nat} {En : Nat → Nat → Bool} {w : Nat} (B : Nat → Prop) (hB : ∀ v, abv D w v = true → v ≠ w → B v) (n : Nat) : ∀ (s : zB), (∀ v, s.1 v = true → B v) → ∀ v, (gLp D H En w n s).1 v = true → B v := by
  induction n with
  | zero => intro s h v e; rw [gLp_0] at e; exact h v e
  | succ n ih =>
    intro s h v e
    by_cases ho : lb (opn s) 12 < 12
    · rw [gLp_y ho] at e
      refine ih _ (fun u hu => ?_) v e
      rw [gSt_1, Bool.or_eq_true, Bool.and_eq_true, Bool.and_eq_true, Bool.not_eq_true', decide_eq_false_iff_not] at hu
      rcases hu with q | ⟨⟨-, q1⟩, q2⟩
      · exact h u q
      · exact hB u q1 q2
    · rw [gLp_n ho] at e
      exact h v e
theorem gLp_ew {D : zD} {H : Nat → Option Nat} {En : Nat → Nat → Bool} {w : Nat} (B : Nat → Prop) (hB : ∀ x y, En x y = true → B (ldr H y)) (n : Nat) : ∀ (s : zB), (∀ v, s.2.2.1 v = true → B v) → ∀ v, (gLp D H En w n s).2.2.1 v = true → B v := by
  induction n with
  | zero => intro s h v e; rw [gLp_0] at e; exact h v e
  | succ n ih =>
    intro s h v e
    by_cases ho : lb (opn s) 12 < 12
    · rw [gLp_y ho] at e
      refine ih _ (fun u hu => ?_) v e
      rw [gSt_3, Bool.or_eq_true, Bool.and_eq_true] at hu
      rcases hu with q | ⟨q1, q2⟩
      · exact h u q
      · obtain ⟨y, -, y2, y3⟩ := (lds_ex _ _ _ _).mp q1
        rw [y3]; exact hB _ y y2
    · rw [gLp_n ho] at e
      exact h v e
theorem gLp_tw {D : zD} {H : Nat → Option Nat} {En : Nat → Nat → Bool} {w : Nat} (n : Nat) : ∀ (s : zB), 1 ≤ s.2.2.2 ∧ s.2.2.2 ≤ 3 → 1 ≤ (gLp D H En w n s).2.2.2 ∧ (gLp D H En w n s).2.2.2 ≤ 3 := by
  induction n with
  | zero => intro s h; rw [gLp_0]; exact h
  | succ n ih =>
    intro s h
    by_cases ho : lb (opn s) 12 < 12
    · rw [gLp_y ho]
      refine ih _ ?_
      rw [gSt_4]
      cases strg D H (En (lb (opn s) 12)) w 12 with
      | true => rw [if_pos rfl]; omega
      | false => rw [if_neg (by decide)]; exact h
    · rw [gLp_n ho]; exact h
theorem zU_gat {G : zG} {D : zD} {p w : Nat} {W : zW} (hF : zF G D) (h : zU D (p + 1) W) (hw : D.2.1 w = some p) : zU D p (gat G D w W) := by
  by_cases hb : lb (bk0 G D w) 12 < 12
  · have hbody : ∀ v, (gS1 G D W w).1 v = true → ∃ k, D.2.1 v = some k ∧ p < k := by
      rw [gS1]
      refine gLp_bd _ (fun v h1 h2 => ?_) 12 _ (fun v hv => ?_)
      · obtain ⟨k, h3, h4⟩ := abv_od hw h1
        have := od_ne hF.I hw h3 h2
        exact ⟨k, h3, by omega⟩
      · rw [gS0_1] at hv
        unfold bd0 at hv
        rw [Bool.and_eq_true, Bool.not_eq_true', decide_eq_false_iff_not] at hv
        obtain ⟨y, -, y2, y3⟩ := (lds_ex _ _ _ _).mp hv.1
        unfold bk0 at y2
        rw [Bool.and_eq_true, Bool.and_eq_true] at y2
        rcases h.ldr 12 y y2.1.1 with q | ⟨k, q1, q2⟩
        · have e : v = y := y3.trans q
          obtain ⟨k, h3, h4⟩ := abv_od hw y2.2
          rw [← e] at h3
          have := od_ne hF.I hw h3 hv.2
          exact ⟨k, h3, by omega⟩
        · refine ⟨k, ?_, by omega⟩
          rw [y3]; exact q1
    refine ⟨fun b t e => ?_, fun c v e => ?_, fun c => ?_, fun c e => ?_⟩
    · rw [gat_1 hb] at e
      by_cases hq : (decide (b < 12) && (gS1 G D W w).1 b) = true
      · rw [if_pos hq] at e
        rw [Bool.and_eq_true] at hq
        obtain ⟨k, h1, h2⟩ := hbody b hq.2
        have : w = t := Option.some.inj e
        exact ⟨k, p, h1, by rw [← this]; exact hw, Nat.le_refl _, h2⟩
      · rw [if_neg hq] at e
        obtain ⟨kb, kh, h1, h2, h3, h4⟩ := h.1 b t e
        exact ⟨kb, kh, h1, h2, by omega, h4⟩
    · rw [gat_3 hb] at e
      by_cases hc : c = w
      · rw [if_pos hc, gS1] at e
        refine gLp_ew (fun v => od D v = true) (fun x y hy => h.lod (h.2.1 x y hy)) 12 _ (fun u hu => ?_) v e
        rw [gS0_3] at hu
        exact h.2.1 w u hu
      · rw [if_neg hc] at e; exact h.2.1 c v e
    · rw [gat_2 hb]
      by_cases hc : c = w
      · rw [if_pos hc, gS1]
        refine (gLp_tw 12 _ ?_).2
        rw [gS0_4]
        by_cases q : lb (bd0 G D W.1 w) 12 < 12
        · rw [if_pos q]; omega
        · rw [if_neg q]; omega
      · rw [if_neg hc]; exact h.2.2.1 c
    · rw [gat_2 hb] at e
      by_cases hc : c = w
      · rw [hc]; exact ⟨p, hw, Nat.le_refl _⟩
      · rw [if_neg hc] at e
        obtain ⟨k, h1, h2⟩ := h.2.2.2 c e
        exact ⟨k, h1, by omega⟩
  · rw [gat_n hb]
    refine ⟨fun b t e => ?_, h.2.1, h.2.2.1, fun c e => ?_⟩
    · obtain ⟨kb, kh, h1, h2, h3, h4⟩ := h.1 b t e
      exact ⟨kb, kh, h1, h2, by omega, h4⟩
    · obtain ⟨k, h1, h2⟩ := h.2.2.2 c e
      exact ⟨k, h1, by omega⟩
def w0 (G : zG) (D : zD) : zW := (fun _ => none, fun _ => 0, en0 G D)
def gAll (G : zG) (D : zD) : Nat → zW → zW
  | 0, W => W
  | p + 1, W => gAll G D p (gat G D (D.2.2.2 p) W)
def wrk (G : zG) (D : zD) : zW := gAll G D D.1 (w0 G D)
theorem w0_U (G : zG) (D : zD) : zU D D.1 (w0 G D) := by
  refine ⟨fun b t e => (by cases e), fun c v e => ?_, fun c => Nat.zero_le _, fun c e => absurd rfl e⟩
  have e : (od D v && gGo G v c && !abv D c v) = true := e
  rw [Bool.and_eq_true, Bool.and_eq_true] at e
  exact e.1.1
theorem gAll_U {G : zG} {D : zD} (hF : zF G D) : ∀ p W, p ≤ D.1 → zU D p W → zU D 0 (gAll G D p W)
  | 0, W, _, h => h
  | p + 1, W, hp, h => gAll_U hF p _ (by omega) (zU_gat hF h (hF.I.2 p (by omega)))
theorem wrk_U {G : zG} {D : zD} (hF : zF G D) : zU D 0 (wrk G D) := gAll_U hF D.1 _ (Nat.le_refl _) (w0_U G D)
/-! ===== the class reads a graph ===== -/
def kS (x : nz_S) (G : zG) (D : zD) (W : zW) : Prop := sK x D ∧ x.1 11 9 = bm (od D) ∧ x.1 11 10 = nI (sumN (fun b => bcN G D b) G.1) ∧ (∀ c, c < 12 → x.1 15 c = bm (tg0 G D c)) ∧ (∀ c, c < 12 → x.1 16 c = bm (bk0 G D c)) ∧ kW x W
theorem sub1 (a : Int32) : a + (-1) = a - 1 := by rw [Int32.sub_eq_add_neg]
theorem nI_s1 (p : Nat) (hp : p < 1000) : nI (p + 1) - 1 = nI p := by rw [← sub1, m1I hp]
theorem kRead_56 {G : zG} (hV : zV G) {D : zD} (hF : zF G D) (g : Nat) (K : Int32 → nz_S → Option (Unit × nz_S)) : ∀ p fu (x : nz_S) (W : zW), p ≤ D.1 → p < fu → zU D p W → sK x D → (∀ c, c < 12 → x.1 16 c = bm (bk0 G D c)) → kW x W → ∃ y, f_X5_read_56 g fu (nI p - 1) x K = K (-1) y ∧ kW y (gAll G D p W) ∧ fH x y
  | 0, fu + 1, x, W, _, _, hU, hs, h16, hx => ⟨x, by rw [f_X5_read_56, show nI 0 - 1 = (-1 : Int32) by decide, if_pos (by decide)], hx, fH.rf x⟩
  | p + 1, fu + 1, x, W, hp, hf, hU, hs, h16, hx => by
    have h12 := hV.1
    have hle := hF.I.le
    have hw := hF.I.2 p (show p < D.1 by omega)
    have hwn := hF.I.at_lt (show p < D.1 by omega)
    obtain ⟨y, y1, y2, y3⟩ := kGat (G := G) (D := D) (w := D.2.2.2 p) (fun b t e => zU.lt hV hF hU b t e) (by omega) hx (hs.2.2.2 _ (by omega) (hF.ls (od_ex.mpr ⟨p, hw⟩))) (h16 _ (by omega))
    have hs' : sK y D := by
      unfold sK
      rw [y3.1 11 (by omega), y3.1 12 (by omega), y3.1 13 (by omega), y3.1 14 (by omega)]
      exact hs
    obtain ⟨z, z1, z2, z3⟩ := kRead_56 hV hF g K p fu y (gat G D (D.2.2.2 p) W) (by omega) (by omega) (zU_gat hF hU hw) hs' (fun c hc => by rw [y3.1 16 (by omega)]; exact h16 c hc) y2
    refine ⟨z, ?_, z2, y3.tr z3⟩
    rw [f_X5_read_56, nI_s1 p (by omega), if_neg (nI_pos (by omega))]
    simp only [z_in (show p < 12 by omega) (by omega), z_chk, z_N (show p < 2147483648 by omega), hs.2.2.1 p (by omega), y1, z_bnd, sub1]
    exact z1
theorem kReadT {g : Nat} {G : zG} (hg : g + 3 < 11) (hV : zV G) {D : zD} (hF : zF G D) {x : nz_S} (hk : zK x g G) (hs : sK x D) (h9 : x.1 11 9 = bm (od D)) (h10 : x.1 11 10 = 0) (hz : ∀ c k, c = 15 ∨ c = 16 ∨ c = 17 ∨ c = 19 → k < 12 → x.1 c k = 0) (h18 : ∀ k, k < 12 → x.1 18 k = -9) : ∃ y, (f_X5_read_24 g nz_F (0 : Int32) x fun _ x11 => f_X5_read_56 g nz_F ((x11.1 11 8) - (1 : Int32)) x11 fun _ x20 => some ((), x20)) = some ((), y) ∧ kS y G D (wrk G D) ∧ eS x y := by
  have h12 := hV.1
  have hle := hF.I.le
  have hA : kA x D (srtN G D 0).1 (srtN G D 0).2 := by
    refine ⟨fun c hc => ?_, fun c hc => ?_, fun c hc => ?_, h10⟩
    · rw [hz 15 c (by omega) hc]; exact (bm_0.mpr (fun _ _ => rfl)).symm
    · rw [hz 16 c (by omega) hc]; exact (bm_0.mpr (fun _ _ => rfl)).symm
    · rw [hz 17 c (by omega) hc]; exact (bm_0.mpr (fun _ _ => rfl)).symm
  obtain ⟨y, y1, y2, y3⟩ := kRead_24 hg hV hF (fun _ x11 => f_X5_read_56 g nz_F ((x11.1 11 8) - (1 : Int32)) x11 fun _ x20 => some ((), x20)) D.1 0 nz_F x (by omega) (by unfold nz_F; omega) hA hs hk
  rw [nI_0] at y1
  have hs' := y3.ks hs
  obtain ⟨a15, a16, a17, a10⟩ := y2
  have t15 : ∀ c, c < 12 → y.1 15 c = bm (tg0 G D c) := fun c hc => by
    rw [a15 c hc]; exact bm_ext (fun u _ => srtN_all hF c u)
  have t16 : ∀ c, c < 12 → y.1 16 c = bm (bk0 G D c) := fun c hc => by
    rw [a16 c hc]; exact bm_ext (fun u _ => by rw [srtN_all hF u c]; rfl)
  have t17 : ∀ c, c < 12 → y.1 17 c = bm (en0 G D c) := fun c hc => by
    rw [a17 c hc]; exact bm_ext (fun u _ => by rw [srtN_all hF u c]; rfl)
  have hW : kW y (w0 G D) := by
    refine ⟨fun c hc => ?_, fun c hc => ?_, t17⟩
    · rw [y3.1 18 (by omega) (by omega), h18 c hc]; rfl
    · rw [y3.1 19 (by omega) (by omega), hz 19 c (by omega) hc]; rfl
  obtain ⟨z, z1, z2, z3⟩ := kRead_56 hV hF g (fun _ x20 => some ((), x20)) D.1 nz_F y (w0 G D) (Nat.le_refl _) (by unfold nz_F; omega) (w0_U G D) hs' t16 hW
  refine ⟨z, ?_, ⟨?_, ?_, ?_, ?_, ?_, z2⟩, y3.S.tr ⟨fun c hc => z3.1 c (by omega), z3.2⟩⟩
  · refine y1.trans ?_
    rw [hs'.1]
    exact z1
  · unfold sK
    rw [z3.1 11 (by omega), z3.1 12 (by omega), z3.1 13 (by omega), z3.1 14 (by omega)]
    exact hs'
  · rw [z3.1 11 (by omega), y3.2.1 9 (by omega)]; exact h9
  · rw [z3.1 11 (by omega), a10, srtN_sum hF]
  · intro c hc; rw [z3.1 15 (by omega)]; exact t15 c hc
  · intro c hc; rw [z3.1 16 (by omega)]; exact t16 c hc
theorem kRead {g : Nat} {G : zG} (hg : g + 3 < 11) (hV : zV G) {x : nz_S} (hk : zK x g G) : ∃ y, f_X5_read g x = some ((), y) ∧ kS y G (dfs G) (wrk G (dfs G)) ∧ eS x y := by
  have h12 := hV.1
  obtain ⟨x2, c1, c2, c3, c4, c5, c6, c7, c8⟩ := kClear x
  have hk2 := c8.K hg hk
  have hs2 : sK x2 d0 := ⟨c5, fun c hc => c2 c hc, fun k hk => absurd hk (Nat.not_lt_zero k), fun c hc e => (by cases e)⟩
  have hF := dfs_F hV
  by_cases h : G.1 = 0
  · have e : dfs G = d0 := by rw [dfs, if_pos h]
    rw [e] at hF ⊢
    obtain ⟨y, y1, y2, y3⟩ := kReadT hg hV hF hk2 hs2 (by rw [c6]; exact (bm_0.mpr (fun _ _ => rfl)).symm) c7 c3 c4
    refine ⟨y, ?_, y2, c8.tr y3⟩
    unfold f_X5_read
    rw [c1, z_bnd, hk2.n, h, if_pos (by decide)]
    exact y1
  · have e : dfs G = vis G 13 0 d0 := by rw [dfs, if_neg h]
    rw [e] at hF ⊢
    obtain ⟨x3, a1, a2, a3⟩ := kVis hg hV 13 0 d0 x2 0 (d0_I G) d0_J hs2 hk2 (by omega) rfl (by show G.1 - 0 ≤ 13; omega) (Nat.le_refl _)
    have e0 : d0.1 = 0 := rfl
    rw [e0, snc_od, nI_0] at a1
    have fx0 : eS x2 x3 := ⟨fun c hc => a3.1 c (by omega), a3.2.2.2⟩
    have fx : eS x2 (nz_put x3 11 9 (bm (od (vis G 13 0 d0)))) := fx0.tr (eS_put _ _ _ _ (by omega))
    have hs3 : sK (nz_put x3 11 9 (bm (od (vis G 13 0 d0)))) (vis G 13 0 d0) := by
      obtain ⟨s1, s2, s3, s4⟩ := a2
      refine ⟨?_, fun c hc => ?_, fun c hc => ?_, fun c hc e => ?_⟩
      · rw [z_put1, if_pos rfl, z_upd, if_neg (by omega)]; exact s1
      · rw [z_put1, if_neg (by omega)]; exact s2 c hc
      · rw [z_put1, if_neg (by omega)]; exact s3 c hc
      · rw [z_put1, if_neg (by omega)]; exact s4 c hc e
    have g9 : (nz_put x3 11 9 (bm (od (vis G 13 0 d0)))).1 11 9 = bm (od (vis G 13 0 d0)) := by rw [z_put1, if_pos rfl, z_upd, if_pos rfl]
    have g10 : (nz_put x3 11 9 (bm (od (vis G 13 0 d0)))).1 11 10 = 0 := by rw [z_put1, if_pos rfl, z_upd, if_neg (by omega), a3.2.2.1]; exact c7
    obtain ⟨y, y1, y2, y3⟩ := kReadT hg hV hF (fx.K hg hk2) hs3 g9 g10 (fun c k hc hk => by rw [z_put1, if_neg (by omega), a3.1 c (by omega)]; exact c3 c k hc hk) (fun k hk => by rw [z_put1, if_neg (by omega), a3.1 18 (by omega)]; exact c4 k hk)
    refine ⟨y, ?_, y2, (c8.tr fx).tr y3⟩
    unfold f_X5_read
    rw [c1, z_bnd, hk2.n, if_neg (nI_nle (by omega) (by omega)), a1, z_bnd]
    exact y1
