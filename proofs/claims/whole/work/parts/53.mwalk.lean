/-! ===== the reference's walk ===== -/
def mW (x : nz_S) (D : zD) : Prop := x.1 0 16 = nI D.1 ∧ (∀ c, c < 12 → x.1 11 c = oi (D.2.1 c)) ∧ (∀ c, c < 12 → x.1 12 c = oi (D.2.2.1 c))
/-- only the walk's own cells change, and the pile above p -/
def fM (p : Nat) (x y : nz_S) : Prop := (∀ c, c ≠ 0 → c < 11 ∨ 14 < c → y.1 c = x.1 c) ∧ (∀ i, i ≠ 16 → y.1 0 i = x.1 0 i) ∧ (∀ k, k < p → y.1 13 k = x.1 13 k ∧ y.1 14 k = x.1 14 k) ∧ y.2 = x.2
theorem fM.rf (p : Nat) (x : nz_S) : fM p x x := ⟨fun _ _ _ => rfl, fun _ _ => rfl, fun _ _ => ⟨rfl, rfl⟩, rfl⟩
theorem fM.tr {p : Nat} {x y z : nz_S} (h : fM p x y) (h2 : fM p y z) : fM p x z := ⟨fun c h0 hc => (h2.1 c h0 hc).trans (h.1 c h0 hc), fun i hi => (h2.2.1 i hi).trans (h.2.1 i hi), fun k hk => ⟨((h2.2.2.1 k hk).1).trans (h.2.2.1 k hk).1, ((h2.2.2.1 k hk).2).trans (h.2.2.1 k hk).2⟩, h2.2.2.2.trans h.2.2.2⟩
theorem fM.le {p q : Nat} {x y : nz_S} (h : fM q x y) (hpq : p ≤ q) : fM p x y := ⟨h.1, h.2.1, fun k hk => h.2.2.1 k (by omega), h.2.2.2⟩
theorem fM.M {p : Nat} {x y : nz_S} (h : fM p x y) {q : Nat} {G : zG} (hq : q = 3 ∨ q = 4) (hm : zM x q G) : zM y q G := zM_eq hm (h.1 q (by omega) (by omega))
theorem fM_put (p : Nat) (x : nz_S) (c i : Nat) (v : Int32) (h : c = 11 ∨ c = 12 ∨ (c = 13 ∨ c = 14) ∧ p ≤ i) : fM p x (nz_put x c i v) := by
  refine ⟨fun k h0 hk => by rw [z_put1, if_neg (by omega)], fun j hj => by rw [z_put1, if_neg (by omega)], fun k hk => ⟨?_, ?_⟩, rfl⟩
  · rw [z_put1]
    by_cases hc : 13 = c
    · rw [if_pos hc, z_upd, if_neg (by omega), hc]
    · rw [if_neg hc]
  · rw [z_put1]
    by_cases hc : 14 = c
    · rw [if_pos hc, z_upd, if_neg (by omega), hc]
    · rw [if_neg hc]
theorem fM_put0 (p : Nat) (x : nz_S) (v : Int32) : fM p x (nz_put x 0 16 v) := by
  refine ⟨fun k h0 hk => by rw [z_put1, if_neg h0], fun j hj => by rw [z_put1, if_pos rfl, z_upd, if_neg hj], fun k hk => ⟨?_, ?_⟩, rfl⟩
  · rw [z_put1, if_neg (by omega)]
  · rw [z_put1, if_neg (by omega)]
theorem mCome {x : nz_S} {D : zD} (h : mW x D) {b p : Nat} (hb : b < 12) (hp : p < 13) : ∃ y, f_X8_comeTo (nI b) (nI p) x = some ((), y) ∧ mW y (dIn b D) ∧ fM p x y ∧ y.1 13 p = nI b ∧ y.1 14 p = nI 0 := by
  obtain ⟨h1, h2, h3⟩ := h
  have e1 : (nz_put x 11 b (nI D.1)).1 0 16 = nI D.1 := by rw [z_put1, if_neg (by omega), h1]
  refine ⟨nz_put (nz_put (nz_put (nz_put x 11 b (nI D.1)) 0 16 (nI (D.1 + 1))) 13 p (nI b)) 14 p (nI 0), ?_, ⟨?_, fun c hc => ?_, fun c hc => ?_⟩, ?_, ?_, ?_⟩
  · simp only [f_X8_comeTo, z_in hb (by omega), z_chk, z_N (show b < 2147483648 by omega), h1, e1, z_in hp (by omega), z_N (show p < 2147483648 by omega), nI_1]
    rfl
  · rw [z_put1, if_neg (by omega), z_put1, if_neg (by omega), z_put1, if_pos rfl, z_upd, if_pos rfl]; rfl
  · rw [z_put1, if_neg (by omega), z_put1, if_neg (by omega), z_put1, if_neg (by omega), z_put1, if_pos rfl, z_upd]
    show _ = oi (if c = b then some D.1 else D.2.1 c)
    by_cases hcb : c = b
    · rw [if_pos hcb, if_pos hcb]; rfl
    · rw [if_neg hcb, if_neg hcb]; exact h2 c hc
  · rw [z_put1, if_neg (by omega), z_put1, if_neg (by omega), z_put1, if_neg (by omega), z_put1, if_neg (by omega)]; exact h3 c hc
  · exact (((fM_put p x 11 b _ (by omega)).tr (fM_put0 p _ _)).tr (fM_put p _ 13 p _ (by omega))).tr (fM_put p _ 14 p _ (by omega))
  · rw [z_put1, if_neg (by omega), z_put1, if_pos rfl, z_upd, if_pos rfl]
  · rw [z_put1, if_pos rfl, z_upd, if_pos rfl]
theorem m1I {k : Nat} (hk : k < 1000) : nI (k + 1) + (-1) = nI k := by
  rw [← nI_1]
  apply nz_i32
  have : (nI k + 1 + -1 : Int32) = nI k := by
    have e : (nI k + 1 + -1 : Int32) = nI k + (1 + -1) := by rw [Int32.add_assoc]
    rw [e, show (1 + -1 : Int32) = 0 by decide, Int32.add_zero]
  rw [this]
theorem mWalk_L {q : Nat} {G : zG} (hq : q = 3 ∨ q = 4) (hV : zV G) {b p d : Nat} (hb : b < G.1) (K : Int32 → nz_S → Option (Unit × nz_S)) (IH : ∀ (t : Nat) (D : zD) (x : nz_S) (p : Nat), zI G D → t < G.1 → D.2.1 t = none → G.1 - D.1 ≤ d → p ≤ D.1 → mW x (dIn t D) → zM x q G → x.1 13 p = nI t → x.1 14 p = nI 0 → ∃ y s, (∀ fu, f_X8_walk_51 q (fu + s) (nI p) x K = f_X8_walk_51 q fu (nI p + (-1)) y K) ∧ mW y (vis G d t D) ∧ fM p x y ∧ s ≤ 4 * ((vis G d t D).1 - D.1)) : ∀ r i (E : zD) (x : nz_S), i + r = (G.2.2 b).length → zI G E → mW x E → zM x q G → G.1 - E.1 ≤ d → p + 1 ≤ E.1 → x.1 13 p = nI b → x.1 14 p = nI i → ∃ y s, (∀ fu, f_X8_walk_51 q (fu + s) (nI p) x K = f_X8_walk_51 q fu (nI p + (-1)) y K) ∧ mW y (dOut b (((G.2.2 b).drop i).foldl (stp G d) E)) ∧ fM p x y ∧ s ≤ r + 1 + 4 * ((((G.2.2 b).drop i).foldl (stp G d) E).1 - E.1) ∧ E.1 ≤ (((G.2.2 b).drop i).foldl (stp G d) E).1
  | 0, i, E, x, e, hI, hm, hz, hd, hp, hs, hx => by
    have h12 := hV.1
    have hlb := hV.l hb
    have hle := hI.le
    have : i = (G.2.2 b).length := by omega
    subst this
    rw [List.drop_length]
    obtain ⟨h1, h2, h3⟩ := hm
    refine ⟨nz_put x 12 b (nI (E.1 - 1)), 1, fun fu => ?_, ⟨?_, fun c hc => ?_, fun c hc => ?_⟩, fM_put p x 12 b _ (by omega), by omega, Nat.le_refl _⟩
    · have e3 : (13 : Int32) + nI b = nI (13 + b) := by rw [show (13 : Int32) = nI 13 from rfl, nI_add]
      rw [f_X8_walk_51, if_neg (nI_pos (by omega))]
      simp only [z_in (show p < 13 by omega) (by omega), z_chk, z_N (show p < 2147483648 by omega), hs, e3, z_in (show 13 + b < 61 by omega) (by omega), z_N (show 13 + b < 2147483648 by omega), hx, hz.c hb, if_true, z_in (show b < 12 by omega) (by omega), z_N (show b < 2147483648 by omega), h1]
      rw [show nI E.1 - 1 = nI (E.1 - 1) from pk_sub (b := 1) (by omega)]
    · rw [z_put1, if_neg (by omega)]; exact h1
    · rw [z_put1, if_neg (by omega)]; exact h2 c hc
    · rw [z_put1, if_pos rfl, z_upd]
      show _ = oi (if c = b then some (E.1 - 1) else E.2.2.1 c)
      by_cases hcb : c = b
      · rw [if_pos hcb, if_pos hcb]; rfl
      · rw [if_neg hcb, if_neg hcb]; exact h3 c hc
  | r + 1, i, E, x, e, hI, hm, hz, hd, hp, hs, hx => by
    have h12 := hV.1
    have hlb := hV.l hb
    have hle := hI.le
    have hil : i < (G.2.2 b).length := by omega
    have ht := hV.t hb hil
    have htt := hz.t hb hil
    have hdrop : (G.2.2 b).drop i = (G.2.2 b).getD i 0 :: (G.2.2 b).drop (i + 1) := by
      rw [List.drop_eq_getElem_cons hil, List.getD_eq_getElem?_getD, List.getElem?_eq_getElem hil]
      rfl
    rw [hdrop, List.foldl_cons]
    obtain ⟨t, hte⟩ : ∃ t, t = (G.2.2 b).getD i 0 := ⟨_, rfl⟩
    rw [← hte] at ht htt ⊢
    have e3 : (13 : Int32) + nI b = nI (13 + b) := by rw [show (13 : Int32) = nI 13 from rfl, nI_add]
    have e5 : (25 : Int32) + 3 * nI b + nI i = nI (25 + (3 * b + i)) := by
      rw [show (25 : Int32) = nI 25 from rfl, show (3 : Int32) = nI 3 from rfl, pk_mul, nI_add, nI_add, Nat.add_assoc]
    have ne : ¬ nI i = nI (G.2.2 b).length := by rw [z_eq (by omega) (by omega)]; omega
    obtain ⟨x1, hx1⟩ : ∃ x1, x1 = nz_put x 14 p (nI (i + 1)) := ⟨_, rfl⟩
    have f1 : fM p x x1 := by rw [hx1]; exact fM_put p x 14 p _ (by omega)
    have hm1 : mW x1 E := by
      obtain ⟨h1, h2, h3⟩ := hm
      refine ⟨?_, fun c hc => ?_, fun c hc => ?_⟩
      · rw [hx1, z_put1, if_neg (by omega)]; exact h1
      · rw [hx1, z_put1, if_neg (by omega)]; exact h2 c hc
      · rw [hx1, z_put1, if_neg (by omega)]; exact h3 c hc
    have hz1 : zM x1 q G := f1.M hq hz
    have hs1 : x1.1 13 p = nI b := by rw [hx1, z_put1, if_neg (by omega)]; exact hs
    have hn1 : x1.1 14 p = nI (i + 1) := by rw [hx1, z_put1, if_pos rfl, z_upd, if_pos rfl]
    have base : ∀ fu, f_X8_walk_51 q (fu + 1) (nI p) x K = if oi (E.2.1 t) = -9 then nz_bnd (f_X8_comeTo (nI t) (nI (p + 1)) x1) fun _ x30 => f_X8_walk_51 q fu (nI (p + 1)) x30 K else f_X8_walk_51 q fu (nI p) x1 K := by
      intro fu
      rw [f_X8_walk_51, if_neg (nI_pos (by omega))]
      simp only [z_in (show p < 13 by omega) (by omega), z_chk, z_N (show p < 2147483648 by omega), hs, e3, z_in (show 13 + b < 61 by omega) (by omega), z_N (show 13 + b < 2147483648 by omega), hx, hz.c hb, ne, if_false, e5, z_in (show 25 + (3 * b + i) < 61 by omega) (by omega), z_N (show 25 + (3 * b + i) < 2147483648 by omega), htt, nI_1, z_in (show t < 12 by omega) (by omega), z_N (show t < 2147483648 by omega)]
      rw [← hx1, hm1.2.1 t (by omega)]
    cases hv : E.2.1 t with
    | none =>
      rw [stp_n hv]
      obtain ⟨y, c1, c2, c3, c4, c5⟩ := mCome hm1 (b := t) (p := p + 1) (by omega) (by omega)
      obtain ⟨y2, s1, i1, i2, i3, i4⟩ := IH t E y (p + 1) hI ht hv hd hp c2 (c3.M hq hz1) c4 c5
      obtain ⟨p1, p2, p3, p4⟩ := vis_P hV d t E hI ht hv hd
      have k1 : y2.1 13 p = nI b := by rw [(i3.2.2.1 p (by omega)).1, (c3.2.2.1 p (by omega)).1]; exact hs1
      have k2 : y2.1 14 p = nI (i + 1) := by rw [(i3.2.2.1 p (by omega)).2, (c3.2.2.1 p (by omega)).2]; exact hn1
      obtain ⟨y3, s2, j1, j2, j3, j4, j5⟩ := mWalk_L hq hV (p := p) (d := d) hb K IH r (i + 1) (vis G d t E) y2 (by omega) p1.1 i2 (i3.M hq (c3.M hq hz1)) (by omega) (by omega) k1 k2
      refine ⟨y3, s2 + s1 + 1, fun fu => ?_, j2, ((f1.tr (c3.le (by omega))).tr (i3.le (by omega))).tr j3, by omega, by omega⟩
      have := base (fu + s2 + s1)
      rw [hv, oi_none, if_pos rfl, c1, z_bnd, i1, m1I (by omega), j1] at this
      rw [show fu + (s2 + s1 + 1) = fu + s2 + s1 + 1 by omega]
      exact this
    | some k =>
      rw [stp_y hv]
      have hk := (hI.1 t k hv).2.1
      obtain ⟨y3, s2, j1, j2, j3, j4, j5⟩ := mWalk_L hq hV (p := p) (d := d) hb K IH r (i + 1) E x1 (by omega) hI hm1 hz1 hd hp hs1 hn1
      refine ⟨y3, s2 + 1, fun fu => ?_, j2, f1.tr j3, by omega, j5⟩
      have := base (fu + s2)
      rw [hv, oi_some, if_neg (z_m9 (by omega)), j1] at this
      exact this
theorem mWalk_V {q : Nat} {G : zG} (hq : q = 3 ∨ q = 4) (hV : zV G) (K : Int32 → nz_S → Option (Unit × nz_S)) : ∀ (d t : Nat) (D : zD) (x : nz_S) (p : Nat), zI G D → t < G.1 → D.2.1 t = none → G.1 - D.1 ≤ d → p ≤ D.1 → mW x (dIn t D) → zM x q G → x.1 13 p = nI t → x.1 14 p = nI 0 → ∃ y s, (∀ fu, f_X8_walk_51 q (fu + s) (nI p) x K = f_X8_walk_51 q fu (nI p + (-1)) y K) ∧ mW y (vis G d t D) ∧ fM p x y ∧ s ≤ 4 * ((vis G d t D).1 - D.1)
  | 0, t, D, x, p, hI, ht, hn, hd, _, _, _, _, _ => absurd (hI.lt ht hn) (by omega)
  | d + 1, t, D, x, p, hI, ht, hn, hd, hp, hm, hz, hs, hx => by
    have hlt := hI.lt ht hn
    have hlb := hV.l ht
    obtain ⟨y, s, h1, h2, h3, h4, h5⟩ := mWalk_L hq hV (p := p) (d := d) ht K (fun t2 D2 x2 p2 a1 a2 a3 a4 a5 a6 a7 a8 a9 => mWalk_V hq hV K d t2 D2 x2 p2 a1 a2 a3 a4 a5 a6 a7 a8 a9) (G.2.2 t).length 0 (dIn t D) x (by omega) (dIn_I hI ht hn) hm hz (by show G.1 - (D.1 + 1) ≤ d; omega) (by show p + 1 ≤ D.1 + 1; omega) hs hx
    rw [List.drop_zero] at h2 h4 h5
    refine ⟨y, s, h1, by rw [vis_s]; exact h2, h3, ?_⟩
    rw [vis_s]
    have e1 : (dIn t D).1 = D.1 + 1 := rfl
    rw [e1] at h4 h5
    show s ≤ 4 * (((G.2.2 t).foldl (stp G d) (dIn t D)).1 - D.1)
    omega
