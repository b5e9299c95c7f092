/-! ===== the whole walk ===== -/
def d0 : zD := (0, fun _ => none, fun _ => none, fun _ => 0)
def dfs (G : zG) : zD := if G.1 = 0 then d0 else vis G 13 0 d0
def od (D : zD) (v : Nat) : Bool := (D.2.1 v).isSome
theorem d0_I (G : zG) : zI G d0 := ⟨fun c k e => (by cases e), fun k hk => absurd hk (Nat.not_lt_zero k)⟩
theorem d0_J : zJ d0 := fun c z e => by cases e
def zF (G : zG) (D : zD) : Prop := zI G D ∧ (∀ c k, D.2.1 c = some k → ∃ z, D.2.2.1 c = some z ∧ k ≤ z ∧ z < D.1) ∧ (∀ c, D.2.1 c = none → D.2.2.1 c = none) ∧ (∀ c t, od D c = true → t ∈ G.2.2 c → od D t = true) ∧ (∀ C : Nat → Prop, clo G C → C 0 → ∀ c, od D c = true → C c) ∧ (G.1 ≠ 0 → D.2.1 0 = some 0)
theorem zF.I {G : zG} {D : zD} (h : zF G D) : zI G D := h.1
theorem zF.la {G : zG} {D : zD} (h : zF G D) : ∀ c k, D.2.1 c = some k → ∃ z, D.2.2.1 c = some z ∧ k ≤ z ∧ z < D.1 := h.2.1
theorem zF.no {G : zG} {D : zD} (h : zF G D) : ∀ c, D.2.1 c = none → D.2.2.1 c = none := h.2.2.1
theorem zF.cl {G : zG} {D : zD} (h : zF G D) : ∀ c t, od D c = true → t ∈ G.2.2 c → od D t = true := h.2.2.2.1
theorem zF.re {G : zG} {D : zD} (h : zF G D) : ∀ C : Nat → Prop, clo G C → C 0 → ∀ c, od D c = true → C c := h.2.2.2.2.1
theorem zF.ze {G : zG} {D : zD} (h : zF G D) : G.1 ≠ 0 → D.2.1 0 = some 0 := h.2.2.2.2.2
theorem od_ex {D : zD} {c : Nat} : od D c = true ↔ ∃ k, D.2.1 c = some k := Option.isSome_iff_exists
theorem od_no {D : zD} {c : Nat} : od D c = false ↔ D.2.1 c = none := by
  unfold od
  cases D.2.1 c <;> simp
theorem dfs_F {G : zG} (hV : zV G) : zF G (dfs G) := by
  unfold dfs
  by_cases h : G.1 = 0
  · rw [if_pos h]
    exact ⟨d0_I G, fun c k e => (by cases e), fun c _ => rfl, fun c t e => (by cases e), fun C _ _ c e => (by cases e), fun q => absurd h q⟩
  · rw [if_neg h]
    have h12 := hV.1
    obtain ⟨⟨p1, p2, p3, p4, p5, p6⟩, p7, p8, p9⟩ := vis_P hV 13 0 d0 (d0_I G) (by omega) rfl (by show G.1 - 0 ≤ 13; omega)
    refine ⟨p1, fun c k e => (p4 c k rfl e).2.1, fun c e => p5 c e, fun c t e ht => ?_, fun C hC h0 c e => ?_, fun _ => p7⟩
    · obtain ⟨k, hk⟩ := od_ex.mp e
      exact (p4 c k rfl hk).2.2 t ht
    · exact p6 C hC (fun s hs => by rw [hs]; exact h0) c rfl e
theorem zF.lt {G : zG} {D : zD} (h : zF G D) {c : Nat} (hc : od D c = true) : c < G.1 := by
  obtain ⟨k, hk⟩ := od_ex.mp hc
  exact (h.I.1 c k hk).1
theorem zF.J {G : zG} {D : zD} (h : zF G D) : zJ D := by
  intro c z hz
  cases hc : D.2.1 c with
  | none => rw [h.no c hc] at hz; cases hz
  | some k =>
    obtain ⟨z2, h1, h2, h3⟩ := h.la c k hc
    rw [hz] at h1
    have := Option.some.inj h1
    exact ⟨k, rfl, by omega, by omega⟩
theorem zF.ls {G : zG} {D : zD} (h : zF G D) {c : Nat} (hc : od D c = true) : (D.2.2.1 c).isSome := by
  obtain ⟨k, hk⟩ := od_ex.mp hc
  obtain ⟨z, h1, -⟩ := h.la c k hk
  rw [h1]; rfl
theorem snc_od (D : zD) : bm (snc D 0) = bm (od D) := bm_ext (fun v _ => by
  cases hv : D.2.1 v with
  | none => rw [snc_n hv, od_no.mpr hv]
  | some k => rw [snc_v hv, od_ex.mpr ⟨k, hv⟩, decide_eq_true (Nat.zero_le k)])
/-! in the reference -/
theorem mWalk_7 (q : Nat) (K : Int32 → nz_S → Option (Unit × nz_S)) : ∀ r j fu (x : nz_S), j + r = 12 → r < fu → (∀ c, c < j → x.1 11 c = -9 ∧ x.1 12 c = -9) → ∃ y, f_X8_walk_7 q fu (nI j) x K = K (nI 12) y ∧ (∀ c, c < 12 → y.1 11 c = -9 ∧ y.1 12 c = -9) ∧ fM 0 x y ∧ y.1 0 16 = x.1 0 16
  | 0, j, fu + 1, x, e, _, h => by
    have : j = 12 := by omega
    subst this
    exact ⟨x, by rw [f_X8_walk_7, if_pos ge12], h, fM.rf 0 x, rfl⟩
  | r + 1, j, fu + 1, x, e, hf, h => by
    obtain ⟨y, y1, y2, y3, y4⟩ := mWalk_7 q K r (j + 1) fu (nz_put (nz_put x 11 j (-9)) 12 j (-9)) (by omega) (by omega) (fun c hc => by
      by_cases hcj : c = j
      · refine ⟨?_, ?_⟩
        · rw [z_put1, if_neg (by omega), z_put1, if_pos rfl, z_upd, if_pos hcj]
        · rw [z_put1, if_pos rfl, z_upd, if_pos hcj]
      · obtain ⟨q1, q2⟩ := h c (by omega)
        refine ⟨?_, ?_⟩
        · rw [z_put1, if_neg (by omega), z_put1, if_pos rfl, z_upd, if_neg hcj]; exact q1
        · rw [z_put1, if_pos rfl, z_upd, if_neg hcj, z_put1, if_neg (by omega)]; exact q2)
    refine ⟨y, ?_, y2, ((fM_put 0 x 11 j _ (by omega)).tr (fM_put 0 _ 12 j _ (by omega))).tr y3, ?_⟩
    · rw [f_X8_walk_7, if_neg (lt12 (by omega))]
      simp only [z_in (show j < 12 by omega) (by omega), z_chk, z_N (show j < 2147483648 by omega), nI_1]
      exact y1
    · rw [y4, z_put1, if_neg (by omega), z_put1, if_neg (by omega)]
theorem mWalk {q : Nat} {G : zG} (hq : q = 3 ∨ q = 4) (hV : zV G) {x : nz_S} (hz : zM x q G) : ∃ y, f_X8_walk q x = some ((), y) ∧ mW y (dfs G) ∧ fM 0 x y := by
  have h12 := hV.1
  obtain ⟨x8, a1, a2, a3, a4⟩ := mWalk_7 q (fun u9 x8 => nz_chk (nz_in (0 : Int32) 61) (if (x8.1 q ((0 : Int32)).toNatClampNeg) ≤ (0 : Int32) then f_X8_walk_51 q nz_F (-1 : Int32) x8 fun u36 x35 => some ((), x35) else nz_bnd (f_X8_comeTo (0 : Int32) (0 : Int32) x8) fun r37 x38 => f_X8_walk_51 q nz_F (0 : Int32) x38 fun u41 x40 => some ((), x40))) 12 0 nz_F (nz_put x 0 16 0) (by omega) (by unfold nz_F; omega) (fun c hc => absurd hc (Nat.not_lt_zero c))
  have f8 : fM 0 x x8 := (fM_put0 0 x 0).tr a3
  have hz8 : zM x8 q G := f8.M hq hz
  have m8 : mW x8 d0 := by
    refine ⟨?_, fun c hc => (a2 c hc).1, fun c hc => (a2 c hc).2⟩
    rw [a4, z_put1, if_pos rfl, z_upd, if_pos rfl]; rfl
  have e0 : ((0 : Int32)).toNatClampNeg = 0 := rfl
  have hw : f_X8_walk q x = (if nI G.1 ≤ (0 : Int32) then f_X8_walk_51 q nz_F (-1 : Int32) x8 fun u36 x35 => some ((), x35) else nz_bnd (f_X8_comeTo (0 : Int32) (0 : Int32) x8) fun r37 x38 => f_X8_walk_51 q nz_F (0 : Int32) x38 fun u41 x40 => some ((), x40)) := by
    unfold f_X8_walk
    rw [nI_0] at a1
    refine a1.trans ?_
    simp only [show nz_in 0 61 = true from rfl, z_chk, e0, hz8.n]
  rw [hw]
  by_cases h : G.1 = 0
  · refine ⟨x8, ?_, ?_, f8⟩
    · rw [h, if_pos (by decide)]
      rw [show nz_F = 999 + 1 from rfl, f_X8_walk_51, if_pos (by decide)]
    · unfold dfs; rw [if_pos h]; exact m8
  · have k1 : ¬ nI G.1 ≤ 0 := nI_nle (by omega) (by omega)
    obtain ⟨y, c1, c2, c3, c4, c5⟩ := mCome m8 (b := 0) (p := 0) (by omega) (by omega)
    rw [nI_0] at c1
    obtain ⟨y2, s, i1, i2, i3, i4⟩ := mWalk_V hq hV (fun u41 x40 => some ((), x40)) 13 0 d0 y 0 (d0_I G) (by omega) rfl (by show G.1 - 0 ≤ 13; omega) (Nat.le_refl _) c2 (c3.M hq hz8) c4 c5
    have hle := (vis_P hV 13 0 d0 (d0_I G) (by omega) rfl (by show G.1 - 0 ≤ 13; omega)).1.1.le
    have hs : s ≤ 48 := by
      have : d0.1 = 0 := rfl
      rw [this] at i4
      omega
    refine ⟨y2, ?_, ?_, (f8.tr c3).tr i3⟩
    · rw [if_neg k1, c1, z_bnd]
      have := i1 (nz_F - s)
      rw [show nz_F - s + s = nz_F by unfold nz_F; omega, nI_0] at this
      rw [this, show nz_F - s = (nz_F - s - 1) + 1 by unfold nz_F; omega, f_X8_walk_51, if_pos (by decide)]
    · unfold dfs; rw [if_neg h]; exact i2
/-! in the class -/
def zfl (x : nz_S) (c : Nat) (v : Int32) (j : Nat) : nz_S := nz_set x c (fun k => if k < j then v else x.1 c k)
theorem zfl_0 (x : nz_S) (c : Nat) (v : Int32) : zfl x c v 0 = x := by
  refine nz_ext (fun k i => ?_) rfl
  unfold zfl
  rw [z_set1]
  split
  · rename_i h; subst h; exact if_neg (by omega)
  · rfl
theorem zfl_step (x : nz_S) (c : Nat) (v : Int32) (j : Nat) : nz_put (zfl x c v j) c j v = zfl x c v (j + 1) := by
  refine nz_ext (fun k i => ?_) rfl
  unfold zfl
  rw [z_put1]
  by_cases hc : k = c
  · subst hc
    rw [if_pos rfl, z_set1, if_pos rfl, z_set1, if_pos rfl, z_upd]
    by_cases hi : i = j
    · rw [if_pos hi, if_pos (by omega)]
    · rw [if_neg hi]
      by_cases h2 : i < j
      · rw [if_pos h2, if_pos (by omega)]
      · rw [if_neg h2, if_neg (by omega)]
  · rw [if_neg hc, z_set1, z_set1, if_neg hc, if_neg hc]
theorem zfl_in (x : nz_S) (c : Nat) (v : Int32) {j k : Nat} (h : k < j) : (zfl x c v j).1 c k = v := by
  unfold zfl; rw [z_set1, if_pos rfl, if_pos h]
theorem zfl_o (x : nz_S) {c c' : Nat} (v : Int32) {j : Nat} (h : c' ≠ c) : (zfl x c v j).1 c' = x.1 c' := by
  unfold zfl; rw [z_set1, if_neg h]
theorem kFill_5 (x : nz_S) (c : Nat) (v : Int32) (K : Int32 → nz_S → Option (Unit × nz_S)) : ∀ r j fu, j + r = 12 → r < fu → f_J7_fill_53178_5 c 12 v (nI 12) fu (nI j) (zfl x c v j) K = K (nI 12) (zfl x c v 12)
  | 0, j, fu + 1, e, _ => by
    have : j = 12 := by omega
    subst this
    rw [f_J7_fill_53178_5, if_pos (show nI 12 ≤ nI 12 from ge12)]
  | r + 1, j, fu + 1, e, hf => by
    rw [f_J7_fill_53178_5, if_neg (show ¬ nI 12 ≤ nI j from lt12 (by omega))]
    simp only [z_in (show j < 12 by omega) (by omega), z_chk, z_N (show j < 2147483648 by omega), zfl_step, nI_1]
    exact kFill_5 x c v K r (j + 1) fu (by omega) (by omega)
theorem kFill (x : nz_S) (c : Nat) (v : Int32) : f_J7_fill_53178 c 12 v x = some ((), zfl x c v 12) := by
  have := kFill_5 x c v (fun u7 x6 => some ((), x6)) 12 0 nz_F (by omega) (by unfold nz_F; omega)
  rw [zfl_0, nI_0] at this
  exact this
def eS (x y : nz_S) : Prop := (∀ c, c < 11 ∨ 19 < c → y.1 c = x.1 c) ∧ y.2 = x.2
theorem eS.rf (x : nz_S) : eS x x := ⟨fun _ _ => rfl, rfl⟩
theorem eS.tr {x y z : nz_S} (h : eS x y) (h2 : eS y z) : eS x z := ⟨fun c hc => (h2.1 c hc).trans (h.1 c hc), h2.2.trans h.2⟩
theorem eS.K {x y : nz_S} (h : eS x y) {g : Nat} {G : zG} (hg : g + 3 < 11) (hk : zK x g G) : zK y g G := zK_eq hk (fun c hc => h.1 c (by omega))
theorem eS.eK {x y : nz_S} (h : eS x y) : eK x y := ⟨fun c hc => h.1 c (by omega), h.2⟩
theorem eS_put (x : nz_S) (c i : Nat) (v : Int32) (h : 11 ≤ c ∧ c ≤ 19) : eS x (nz_put x c i v) := ⟨fun k hk => by rw [z_put1, if_neg (by omega)], rfl⟩
theorem kClear (x : nz_S) : ∃ y, f_X5_clear x = some ((), y) ∧ (∀ k, k < 12 → y.1 12 k = -9) ∧ (∀ c k, c = 15 ∨ c = 16 ∨ c = 17 ∨ c = 19 → k < 12 → y.1 c k = 0) ∧ (∀ k, k < 12 → y.1 18 k = -9) ∧ y.1 11 8 = 0 ∧ y.1 11 9 = 0 ∧ y.1 11 10 = 0 ∧ eS x y := by
  refine ⟨nz_put (nz_put (nz_put (zfl (zfl (zfl (zfl (zfl (zfl (zfl x 12 (-9) 12) 14 0 12) 15 0 12) 16 0 12) 17 0 12) 18 (-9) 12) 19 0 12) 11 8 0) 11 9 0) 11 10 0, ?_, fun k hk => ?_, fun c k hc hk => ?_, fun k hk => ?_, ?_, ?_, ?_, ?_⟩
  · simp only [f_X5_clear, kFill, z_bnd]
  · rw [z_put1, if_neg (by omega), z_put1, if_neg (by omega), z_put1, if_neg (by omega), zfl_o _ _ (by omega), zfl_o _ _ (by omega), zfl_o _ _ (by omega), zfl_o _ _ (by omega), zfl_o _ _ (by omega), zfl_o _ _ (by omega), zfl_in _ _ _ hk]
  · rw [z_put1, if_neg (by omega), z_put1, if_neg (by omega), z_put1, if_neg (by omega)]
    rcases hc with rfl | rfl | rfl | rfl
    · rw [zfl_o _ _ (by omega), zfl_o _ _ (by omega), zfl_o _ _ (by omega), zfl_o _ _ (by omega), zfl_in _ _ _ hk]
    · rw [zfl_o _ _ (by omega), zfl_o _ _ (by omega), zfl_o _ _ (by omega), zfl_in _ _ _ hk]
    · rw [zfl_o _ _ (by omega), zfl_o _ _ (by omega), zfl_in _ _ _ hk]
    · rw [zfl_in _ _ _ hk]
  · rw [z_put1, if_neg (by omega), z_put1, if_neg (by omega), z_put1, if_neg (by omega), zfl_o _ _ (by omega), zfl_in _ _ _ hk]
  · rw [z_put1, if_pos rfl, z_upd, if_neg (by omega), z_put1, if_pos rfl, z_upd, if_neg (by omega), z_put1, if_pos rfl, z_upd, if_pos rfl]
  · rw [z_put1, if_pos rfl, z_upd, if_neg (by omega), z_put1, if_pos rfl, z_upd, if_pos rfl]
  · rw [z_put1, if_pos rfl, z_upd, if_pos rfl]
  · refine ⟨fun c hc => ?_, rfl⟩
    rw [z_put1, if_neg (by omega), z_put1, if_neg (by omega), z_put1, if_neg (by omega), zfl_o _ _ (by omega), zfl_o _ _ (by omega), zfl_o _ _ (by omega), zfl_o _ _ (by omega), zfl_o _ _ (by omega), zfl_o _ _ (by omega), zfl_o _ _ (by omega)]
