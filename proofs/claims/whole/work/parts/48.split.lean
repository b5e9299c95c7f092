/-! ===== SPLIT ===== -/
def tr (x n t : Nat) : Nat := if t = x then n else t
def gSplit (G : zG) (p x : Nat) : zG := (G.1 + 1, fun c => if c = G.1 then G.2.1 x else G.2.1 c, fun c => if c = G.1 then G.2.2 x else if c = p then (G.2.2 p).map (tr x G.1) else G.2.2 c)
theorem gSplit_V {G : zG} (hV : zV G) {p x : Nat} (hp : p < G.1) (hx : x < G.1) (hn : G.1 < 12) : zV (gSplit G p x) := by
  refine ⟨by show G.1 + 1 ≤ 12; omega, fun c hc => ?_⟩
  have hc : c < G.1 + 1 := hc
  show (if c = G.1 then G.2.2 x else if c = p then (G.2.2 p).map (tr x G.1) else G.2.2 c).length ≤ 3 ∧ ∀ t, t ∈ (if c = G.1 then G.2.2 x else if c = p then (G.2.2 p).map (tr x G.1) else G.2.2 c) → t < G.1 + 1
  by_cases h1 : c = G.1
  · rw [if_pos h1]
    exact ⟨hV.l hx, fun t ht => by have := (hV.2 x hx).2 t ht; omega⟩
  · rw [if_neg h1]
    by_cases h2 : c = p
    · rw [if_pos h2]
      refine ⟨by rw [List.length_map]; exact hV.l hp, fun t ht => ?_⟩
      obtain ⟨s, hs, rfl⟩ := List.mem_map.mp ht
      have := (hV.2 p hp).2 s hs
      unfold tr
      split <;> omega
    · rw [if_neg h2]
      exact ⟨hV.l (by omega), fun t ht => by have := (hV.2 c (by omega)).2 t ht; omega⟩
theorem getD_map {l : List Nat} {f : Nat → Nat} {i : Nat} (hi : i < l.length) : (l.map f).getD i 0 = f (l.getD i 0) := by
  rw [List.getD_eq_getElem?_getD, List.getD_eq_getElem?_getD, List.getElem?_map, List.getElem?_eq_getElem hi]
  rfl
/-! in the class -/
def gBlk (G : zG) (v : Int32) : zG := (G.1 + 1, fun c => if c = G.1 then v else G.2.1 c, fun c => if c = G.1 then [] else G.2.2 c)
theorem gBlk_V {G : zG} (hV : zV G) (hn : G.1 < 12) (v : Int32) : zV (gBlk G v) := by
  refine ⟨by show G.1 + 1 ≤ 12; omega, fun c hc => ?_⟩
  have hc : c < G.1 + 1 := hc
  show (if c = G.1 then [] else G.2.2 c).length ≤ 3 ∧ ∀ t, t ∈ (if c = G.1 then [] else G.2.2 c) → t < G.1 + 1
  by_cases h1 : c = G.1
  · rw [if_pos h1]; exact ⟨by simp, fun t ht => by simp at ht⟩
  · rw [if_neg h1]; exact ⟨hV.l (by omega), fun t ht => by have := (hV.2 c (by omega)).2 t ht; omega⟩
theorem kBlk {x : nz_S} {g : Nat} {G : zG} (h : zK x g G) (hV : zV G) (v : Int32) (hn : G.1 < 12) : ∃ y, f_X0_appendBlock g v x = some (1, y) ∧ zK y g (gBlk G v) ∧ (∀ c, c < g ∨ g + 3 ≤ c → y.1 c = x.1 c) ∧ y.2 = x.2 := by
  have k1 : nI G.1 < 12 := (z_lt (b := 12) (by omega) (by omega)).mpr hn
  have q1 : (nz_put x (g + 1) G.1 v).1 g 3 = nI G.1 := by rw [z_put1, if_neg (by omega), h.n]
  have q2 : (nz_put (nz_put x (g + 1) G.1 v) (g + 2) G.1 0).1 g 3 = nI G.1 := by rw [z_put1, if_neg (by omega), q1]
  refine ⟨nz_put (nz_put (nz_put x (g + 1) G.1 v) (g + 2) G.1 0) g 3 (nI (G.1 + 1)), ?_, zK.mk ?_ (fun c hc => ?_), ?_, rfl⟩
  · simp only [f_X0_appendBlock, h.n, k1, if_true, z_in (show G.1 < 12 by omega) (by omega), z_chk, z_N (show G.1 < 2147483648 by omega), q1, q2, nI_1]
  · rw [z_put1, if_pos rfl, z_upd, if_pos rfl]; rfl
  · have hc : c < G.1 + 1 := hc
    show _ = (if c = G.1 then v else G.2.1 c) ∧ _ = nI (if c = G.1 then [] else G.2.2 c).length ∧ ∀ i, i < (if c = G.1 then [] else G.2.2 c).length → _ = nI ((if c = G.1 then [] else G.2.2 c).getD i 0)
    have f1 : (nz_put (nz_put (nz_put x (g + 1) G.1 v) (g + 2) G.1 0) g 3 (nI (G.1 + 1))).1 (g + 1) c = if c = G.1 then v else x.1 (g + 1) c := by
      rw [z_put1, if_neg (by omega), z_put1, if_neg (by omega), z_put1, if_pos rfl, z_upd]
    have f2 : (nz_put (nz_put (nz_put x (g + 1) G.1 v) (g + 2) G.1 0) g 3 (nI (G.1 + 1))).1 (g + 2) c = if c = G.1 then 0 else x.1 (g + 2) c := by
      have t : (nz_put x (g + 1) G.1 v).1 (g + 2) = x.1 (g + 2) := by rw [z_put1, if_neg (by omega)]
      rw [z_put1, if_neg (by omega), z_put1, if_pos rfl, z_upd, t]
    have f3 : ∀ i, (nz_put (nz_put (nz_put x (g + 1) G.1 v) (g + 2) G.1 0) g 3 (nI (G.1 + 1))).1 (g + 3) i = x.1 (g + 3) i := fun i => by
      rw [z_put1, if_neg (by omega), z_put1, if_neg (by omega), z_put1, if_neg (by omega)]
    rw [f1, f2]
    by_cases h1 : c = G.1
    · simp only [if_pos h1]
      exact ⟨trivial, rfl, fun i hi => by simp at hi⟩
    · simp only [if_neg h1]
      refine ⟨h.a (by omega), h.c (by omega), fun i hi => ?_⟩
      rw [f3]
      exact h.t (by omega) hi
  · intro c hc
    rw [z_put1, if_neg (by omega), z_put1, if_neg (by omega), z_put1, if_neg (by omega)]
theorem take_succ {l : List Nat} {i : Nat} (hi : i < l.length) : l.take (i + 1) = l.take i ++ [l.getD i 0] := by
  rw [List.take_succ_eq_append_getElem hi, List.getD_eq_getElem?_getD, List.getElem?_eq_getElem hi]
  rfl
theorem kCopy_62 {g : Nat} {G1 : zG} (hV : zV G1) {b s n : Nat} (hb : b < G1.1) (hn : n < G1.1) (hbn : b ≠ n) (c1 : Int32) (K : Int32 → nz_S → Option (Int32 × nz_S)) : ∀ r i fu (y : nz_S), i + r = (G1.2.2 b).length → r < fu → zK y g (gSet G1 n ((G1.2.2 b).take i)) → ∃ y', f_X0_copyBlockFor_62 g c1 (nI b) (nI n) (nI (G1.2.2 b).length) fu (nI i) y K = K (nI (G1.2.2 b).length) y' ∧ zK y' g (gSet G1 n (G1.2.2 b)) ∧ (∀ c, c ≠ g + 2 → c ≠ g + 3 → y'.1 c = y.1 c) ∧ y'.2 = y.2
  | 0, i, fu + 1, y, e, _, hz => by
    have hl := hV.l hb
    have : i = (G1.2.2 b).length := by omega
    subst this
    refine ⟨y, ?_, ?_, fun _ _ _ => rfl, rfl⟩
    · rw [f_X0_copyBlockFor_62, if_pos ((z_le (by omega) (by omega)).mpr (Nat.le_refl _))]
    · rw [List.take_length] at hz; exact hz
  | r + 1, i, fu + 1, y, e, hf, hz => by
    have h12 := hV.1
    have hl := hV.l hb
    have hVi : zV (gSet G1 n ((G1.2.2 b).take i)) := gSet_V hV (by rw [List.length_take]; omega) (fun t ht => (hV.2 b hb).2 t (List.mem_of_mem_take ht))
    have hlb : (gSet G1 n ((G1.2.2 b).take i)).2.2 b = G1.2.2 b := gSet_o _ _ hbn
    have hln : (gSet G1 n ((G1.2.2 b).take i)).2.2 n = (G1.2.2 b).take i := gSet_b _ _ _
    have hlen : ((gSet G1 n ((G1.2.2 b).take i)).2.2 n).length = i := by rw [hln, List.length_take]; omega
    have ht := kTG hz hVi (b := b) (i := i) hb (by rw [hlb]; omega)
    rw [hlb] at ht
    have hc : y.1 (g + 2) n = nI i := by rw [hz.c (show n < G1.1 from hn), hlen]
    have hp := kPut (x := y) (g := g) (b := n) (k := i) (by omega) (by omega) hc (nI ((G1.2.2 b).getD i 0))
    have ha := kAddG hz hVi (b := n) (t := (G1.2.2 b).getD i 0) hn (by rw [hlen]; omega)
    rw [hlen] at ha
    have hg : gAdd (gSet G1 n ((G1.2.2 b).take i)) n ((G1.2.2 b).getD i 0) = gSet G1 n ((G1.2.2 b).take (i + 1)) := by
      show gSet (gSet G1 n ((G1.2.2 b).take i)) n ((gSet G1 n ((G1.2.2 b).take i)).2.2 n ++ [(G1.2.2 b).getD i 0]) = _
      rw [gSet2, hln, take_succ (by omega)]
    rw [hg] at ha
    obtain ⟨y', s1, s2, s3, s4⟩ := kCopy_62 hV (s := s) hb hn hbn c1 K r (i + 1) fu _ (by omega) (by omega) ha
    refine ⟨y', ?_, s2, fun c h2 h3 => ?_, ?_⟩
    · rw [f_X0_copyBlockFor_62, if_neg (by rw [z_le (by omega) (by omega)]; omega), ht, z_bnd, hp, z_bnd]
      simp only [nI_1]
      exact s1
    · rw [s3 c h2 h3, z_put1, if_neg h2, z_put1, if_neg h3]
    · rw [s4]; rfl
def tlF (f : Nat → Nat) (l : List Nat) (i : Nat) : List Nat := (List.range l.length).map (fun j => if j < i then f (l.getD j 0) else l.getD j 0)
theorem tlF_len (f : Nat → Nat) (l : List Nat) (i : Nat) : (tlF f l i).length = l.length := by simp [tlF]
theorem tlF_get (f : Nat → Nat) (l : List Nat) (i : Nat) {j : Nat} (hj : j < l.length) : (tlF f l i).getD j 0 = if j < i then f (l.getD j 0) else l.getD j 0 := by
  unfold tlF
  rw [List.getD_eq_getElem?_getD, List.getElem?_map, List.getElem?_range hj]
  rfl
theorem tlF_0 (f : Nat → Nat) (l : List Nat) : tlF f l 0 = l := l_ext (tlF_len _ _ _) (fun i hi => by
  rw [tlF_len] at hi
  rw [tlF_get f l 0 hi, if_neg (by omega)])
theorem tlF_all (f : Nat → Nat) (l : List Nat) : tlF f l l.length = l.map f := l_ext (by rw [tlF_len, List.length_map]) (fun i hi => by
  rw [tlF_len] at hi
  rw [tlF_get f l _ hi, if_pos hi, getD_map hi])
theorem kTurn_3 {g : Nat} {G : zG} (hV : zV G) {b s n : Nat} (hb : b < G.1) (hs : s < 12) (hn : n < G.1) (K : Int32 → nz_S → Option (Unit × nz_S)) : ∀ r i fu (y : nz_S), i + r = (G.2.2 b).length → r < fu → zK y g (gSet G b (tlF (tr s n) (G.2.2 b) i)) → ∃ y', f_X0_turnArcs_3 g (nI b) (nI s) (nI n) fu (nI i) y K = K (nI (G.2.2 b).length) y' ∧ zK y' g (gSet G b ((G.2.2 b).map (tr s n))) ∧ (∀ c, c ≠ g + 3 → y'.1 c = y.1 c) ∧ y'.2 = y.2
  | 0, i, fu + 1, y, e, _, hz => by
    have h12 := hV.1
    have hl := hV.l hb
    have : i = (G.2.2 b).length := by omega
    subst this
    have hc : y.1 (g + 2) b = nI (G.2.2 b).length := by rw [hz.c hb, gSet_b, tlF_len]
    refine ⟨y, ?_, ?_, fun _ _ => rfl, rfl⟩
    · rw [f_X0_turnArcs_3]
      simp only [z_in (show b < 12 by omega) (by omega), z_chk, z_N (show b < 2147483648 by omega), hc]
      rw [if_pos ((z_le (by omega) (by omega)).mpr (Nat.le_refl _))]
    · rw [tlF_all] at hz; exact hz
  | r + 1, i, fu + 1, y, e, hf, hz => by
    have h12 := hV.1
    have hl := hV.l hb
    have hti := hV.t hb (show i < (G.2.2 b).length by omega)
    have hVi : zV (gSet G b (tlF (tr s n) (G.2.2 b) i)) := gSet_V hV (by rw [tlF_len]; exact hl) (fun t ht => by
      obtain ⟨j, hj, rfl⟩ := List.mem_map.mp ht
      have hj := List.mem_range.mp hj
      have := hV.t hb hj
      split
      · unfold tr; split <;> omega
      · exact this)
    have hc : y.1 (g + 2) b = nI (G.2.2 b).length := by rw [hz.c hb, gSet_b, tlF_len]
    have ht := kTG hz hVi (b := b) (i := i) hb (by rw [gSet_b, tlF_len]; omega)
    rw [gSet_b, tlF_get _ _ _ (by omega), if_neg (by omega)] at ht
    have step : ∀ y2 : nz_S, (∀ c, c ≠ g + 3 → y2.1 c = y.1 c) → (∀ k, y2.1 (g + 3) k = if k = 3 * b + i then nI (tr s n ((G.2.2 b).getD i 0)) else y.1 (g + 3) k) → zK y2 g (gSet G b (tlF (tr s n) (G.2.2 b) (i + 1))) := by
      intro y2 u1 u2
      rw [← gSet2 G b (tlF (tr s n) (G.2.2 b) i)]
      refine kSetG hz (u1 _ (by omega)) (u1 _ (by omega)) (fun k => ?_) (fun j hj => ?_) (fun k hk => ?_) hVi
      · rw [u1 _ (by omega)]
        by_cases hk : k = b
        · rw [if_pos hk, hk, hc, tlF_len]
        · rw [if_neg hk]
      · rw [tlF_len] at hj
        rw [u2, tlF_get _ _ _ hj]
        by_cases hji : j = i
        · subst hji
          rw [if_pos rfl, if_pos (by omega)]
        · rw [if_neg (by omega), hz.t hb (by rw [gSet_b, tlF_len]; exact hj), gSet_b, tlF_get _ _ _ hj]
          by_cases hj2 : j < i
          · rw [if_pos hj2, if_pos (by omega)]
          · rw [if_neg hj2, if_neg (by omega)]
      · rw [u2, if_neg (by omega)]
    rw [f_X0_turnArcs_3]
    simp only [z_in (show b < 12 by omega) (by omega), z_chk, z_N (show b < 2147483648 by omega), hc]
    rw [if_neg (by rw [z_le (by omega) (by omega)]; omega), ht, z_bnd]
    by_cases hq : (G.2.2 b).getD i 0 = s
    · rw [if_pos (by rw [hq])]
      simp only [idx3 (show b < 12 by omega) (show i < 3 by omega), z_in (show 3 * b + i < 36 by omega) (by omega), z_chk, z_N (show 3 * b + i < 2147483648 by omega), nI_1]
      obtain ⟨y', s1, s2, s3, s4⟩ := kTurn_3 hV hb hs hn K r (i + 1) fu (nz_put y (g + 3) (3 * b + i) (nI n)) (by omega) (by omega) (step _ (fun c hc => by rw [z_put1, if_neg hc]) (fun k => by rw [z_put1, if_pos rfl, z_upd, show tr s n ((G.2.2 b).getD i 0) = n by unfold tr; rw [if_pos hq]]))
      exact ⟨y', s1, s2, fun c hc => by rw [s3 c hc, z_put1, if_neg hc], by rw [s4]; rfl⟩
    · rw [if_neg (by rw [z_eq (by omega) (by omega)]; exact hq)]
      simp only [nI_1]
      obtain ⟨y', s1, s2, s3, s4⟩ := kTurn_3 hV hb hs hn K r (i + 1) fu y (by omega) (by omega) (step y (fun c _ => rfl) (fun k => by
        by_cases hk : k = 3 * b + i
        · rw [if_pos hk, hk, hz.t hb (by rw [gSet_b, tlF_len]; omega), gSet_b, tlF_get _ _ _ (by omega), if_neg (by omega)]
          unfold tr; rw [if_neg hq]
        · rw [if_neg hk]))
      exact ⟨y', s1, s2, s3, s4⟩
theorem kSplit {x : nz_S} {g : Nat} {G : zG} (h : zK x g G) (hV : zV G) {p s : Nat} (hp : p < G.1) (hs : s < G.1) (hn : G.1 < 12) (hgo : gGo G p s = true) : ∃ y, f_X0_copyBlockFor g (nI p) (nI s) x = some (nI G.1, y) ∧ zK y g (gSplit G p s) ∧ (∀ c, c < g ∨ g + 3 < c → y.1 c = x.1 c) ∧ y.2 = x.2 := by
  have hls := hV.l hs
  have k1 : (0 ≤ (nI p).toInt ∧ (nI p).toInt < (G.1 : Int)) := by rw [nI_toInt (by omega)]; omega
  have k2 : (0 ≤ (nI s).toInt ∧ (nI s).toInt < (G.1 : Int)) := by rw [nI_toInt (by omega)]; omega
  obtain ⟨x1, b1, b2, b3, b4⟩ := kBlk h hV (x.1 (g + 1) s) hn
  have hV1 := gBlk_V hV hn (x.1 (g + 1) s)
  have l1 : (gBlk G (x.1 (g + 1) s)).2.2 s = G.2.2 s := by show (if s = G.1 then [] else G.2.2 s) = _; rw [if_neg (by omega)]
  have l2 : (gBlk G (x.1 (g + 1) s)).2.2 p = G.2.2 p := by show (if p = G.1 then [] else G.2.2 p) = _; rw [if_neg (by omega)]
  have l3 : (gBlk G (x.1 (g + 1) s)).2.2 G.1 = [] := by show (if G.1 = G.1 then [] else G.2.2 G.1) = _; rw [if_pos rfl]
  have n1 : (gBlk G (x.1 (g + 1) s)).1 = G.1 + 1 := rfl
  have c1 : x1.1 (g + 2) s = nI (G.2.2 s).length := by rw [b2.c (show s < (gBlk G (x.1 (g + 1) s)).1 by rw [n1]; omega), l1]
  have z0 : zK x1 g (gSet (gBlk G (x.1 (g + 1) s)) G.1 (((gBlk G (x.1 (g + 1) s)).2.2 s).take 0)) := by
    rw [List.take_zero]
    have := gSet_same (gBlk G (x.1 (g + 1) s)) G.1
    rw [l3] at this
    rw [this]; exact b2
  obtain ⟨x2, d1, d2, d3, d4⟩ := kCopy_62 (g := g) hV1 (b := s) (s := 0) (n := G.1) (by rw [n1]; omega) (by rw [n1]; omega) (by omega) (nI p) (fun u30 x29 => nz_bnd (f_X0_turnArcs g (nI p) (nI s) (nI G.1) x29) fun r31 x32 => some (nI G.1, x32)) ((gBlk G (x.1 (g + 1) s)).2.2 s).length 0 nz_F x1 (by omega) (by rw [l1]; unfold nz_F; omega) z0
  rw [l1, nI_0] at d1
  rw [l1] at d2
  have hV2 : zV (gSet (gBlk G (x.1 (g + 1) s)) G.1 (G.2.2 s)) := gSet_V hV1 hls (fun t ht => by have := (hV.2 s hs).2 t ht; rw [n1]; omega)
  have l4 : (gSet (gBlk G (x.1 (g + 1) s)) G.1 (G.2.2 s)).2.2 p = G.2.2 p := by rw [gSet_o _ _ (by omega), l2]
  have z1 : zK x2 g (gSet (gSet (gBlk G (x.1 (g + 1) s)) G.1 (G.2.2 s)) p (tlF (tr s G.1) ((gSet (gBlk G (x.1 (g + 1) s)) G.1 (G.2.2 s)).2.2 p) 0)) := by
    rw [tlF_0, gSet_same]; exact d2
  have hlp := hV.l hp
  obtain ⟨x3, e1, e2, e3, e4⟩ := kTurn_3 (g := g) hV2 (b := p) (s := s) (n := G.1) (show p < G.1 + 1 by omega) (by omega) (show G.1 < G.1 + 1 by omega) (fun u13 x12 => some ((), x12)) ((gSet (gBlk G (x.1 (g + 1) s)) G.1 (G.2.2 s)).2.2 p).length 0 nz_F x2 (by omega) (by rw [l4]; unfold nz_F; omega) z1
  rw [nI_0] at e1
  have e1 : f_X0_turnArcs g (nI p) (nI s) (nI G.1) x2 = some ((), x3) := e1
  refine ⟨x3, ?_, ?_, fun c hc => ?_, ?_⟩
  · simp only [f_X0_copyBlockFor, kHB h hV, k1, k2, and_self, if_true, z_bnd, one0, if_false, kGoes h hV hp (show s < 100 by omega), hgo, h.n, z_in (show s < 12 by omega) (by omega), z_chk, z_N (show s < 2147483648 by omega), b1, c1]
    refine d1.trans ?_
    rw [e1, z_bnd]
  · have : gSet (gSet (gBlk G (x.1 (g + 1) s)) G.1 (G.2.2 s)) p ((G.2.2 p).map (tr s G.1)) = gSplit G p s := by
      rw [h.a hs]
      unfold gSet gBlk gSplit
      congr 2
      funext c
      by_cases hcp : c = p
      · simp [hcp, show ¬ p = G.1 by omega]
      · by_cases hcn : c = G.1 <;> simp [hcp, hcn]
        intro hq; omega
    rw [l4, this] at e2
    exact e2
  · rw [e3 c (by omega), d3 c (by omega) (by omega), b3 c (by omega)]
  · rw [e4, d4, b4]
/-! in the reference -/
def zs3 (x : nz_S) (p n s j : Nat) : nz_S := nz_set x p (fun k => if 25 + 3 * n ≤ k ∧ k < 25 + 3 * n + j then x.1 p (k - 3 * n + 3 * s) else x.1 p k)
theorem e25 (b i : Nat) : (25 : Int32) + 3 * nI b + nI i = nI (25 + (3 * b + i)) := by
  rw [show (25 : Int32) = nI 25 from rfl, show (3 : Int32) = nI 3 from rfl, pk_mul, nI_add, nI_add, Nat.add_assoc]
theorem e13 (b : Nat) : (13 : Int32) + nI b = nI (13 + b) := by rw [show (13 : Int32) = nI 13 from rfl, nI_add]
theorem e1p (b : Nat) : (1 : Int32) + nI b = nI (1 + b) := by rw [show (1 : Int32) = nI 1 from rfl, nI_add]
theorem mSplit_29 {x : nz_S} {p n s : Nat} (hs : s < n) (hn : n < 12) (c1 : Int32) (K : Int32 → nz_S → Option (Int32 × nz_S)) : ∀ r j fu, j + r = 3 → r < fu → f_X8_goSplit_29 p c1 (nI s) (nI n) fu (nI j) (zs3 x p n s j) K = K (nI 3) (zs3 x p n s 3)
  | 0, j, fu + 1, e, _ => by
    have : j = 3 := by omega
    subst this
    rw [f_X8_goSplit_29, if_pos (by decide)]
  | r + 1, j, fu + 1, e, hf => by
    have q2 : (zs3 x p n s j).1 p (25 + (3 * s + j)) = x.1 p (25 + (3 * s + j)) := by unfold zs3; rw [z_set1, if_pos rfl, if_neg (by omega)]
    have q3 : nz_put (zs3 x p n s j) p (25 + (3 * n + j)) (x.1 p (25 + (3 * s + j))) = zs3 x p n s (j + 1) := by
      refine nz_ext (fun c k => ?_) rfl
      unfold zs3
      by_cases hcp : c = p
      · subst hcp
        rw [z_put1, if_pos rfl, z_upd, z_set1, if_pos rfl, z_set1, if_pos rfl]
        by_cases hk : k = 25 + (3 * n + j)
        · subst hk; rw [if_pos rfl, if_pos (by omega), show 25 + (3 * n + j) - 3 * n + 3 * s = 25 + (3 * s + j) by omega]
        · rw [if_neg hk]
          by_cases hk2 : 25 + 3 * n ≤ k ∧ k < 25 + 3 * n + j
          · rw [if_pos hk2, if_pos (by omega)]
          · rw [if_neg hk2, if_neg (by omega)]
      · rw [z_put1, if_neg hcp, z_set1, if_neg hcp, z_set1, if_neg hcp]
    rw [f_X8_goSplit_29, if_neg (by rw [show (3 : Int32) = nI 3 from rfl, z_le (by omega) (by omega)]; omega)]
    simp only [e25, z_in (show 25 + (3 * s + j) < 61 by omega) (by omega), z_in (show 25 + (3 * n + j) < 61 by omega) (by omega), z_chk, z_N (show 25 + (3 * s + j) < 2147483648 by omega), z_N (show 25 + (3 * n + j) < 2147483648 by omega), q2, q3, nI_1]
    exact mSplit_29 hs hn c1 K r (j + 1) fu (by omega) (by omega)
def ztn (x : nz_S) (p b s n j : Nat) : nz_S := nz_set x p (fun k => if (25 + 3 * b ≤ k ∧ k < 25 + 3 * b + j) ∧ x.1 p k = nI s then nI n else x.1 p k)
theorem mSplit_66 {x : nz_S} {p b s n L : Nat} (hb : b < 12) (hL : L ≤ 3) (hc : x.1 p (13 + b) = nI L) (K : Int32 → nz_S → Option (Int32 × nz_S)) : ∀ r j fu, j + r = L → r < fu → f_X8_goSplit_66 p (nI b) (nI s) (nI n) fu (nI j) (ztn x p b s n j) K = K (nI L) (ztn x p b s n L)
  | 0, j, fu + 1, e, _ => by
    have : j = L := by omega
    subst this
    have q : (ztn x p b s n j).1 p (13 + b) = nI j := by unfold ztn; rw [z_set1, if_pos rfl, if_neg (by omega), hc]
    rw [f_X8_goSplit_66]
    simp only [e13, z_in (show 13 + b < 61 by omega) (by omega), z_chk, z_N (show 13 + b < 2147483648 by omega), q]
    rw [if_pos ((z_le (by omega) (by omega)).mpr (Nat.le_refl _))]
  | r + 1, j, fu + 1, e, hf => by
    have q : (ztn x p b s n j).1 p (13 + b) = nI L := by unfold ztn; rw [z_set1, if_pos rfl, if_neg (by omega), hc]
    have q2 : (ztn x p b s n j).1 p (25 + (3 * b + j)) = x.1 p (25 + (3 * b + j)) := by unfold ztn; rw [z_set1, if_pos rfl, if_neg (by omega)]
    have q3 : nz_put (ztn x p b s n j) p (25 + (3 * b + j)) (if x.1 p (25 + (3 * b + j)) = nI s then nI n else x.1 p (25 + (3 * b + j))) = ztn x p b s n (j + 1) := by
      refine nz_ext (fun c k => ?_) rfl
      unfold ztn
      by_cases hcp : c = p
      · subst hcp
        rw [z_put1, if_pos rfl, z_upd, z_set1, if_pos rfl, z_set1, if_pos rfl]
        by_cases hk : k = 25 + (3 * b + j)
        · subst hk
          rw [if_pos rfl]
          by_cases hv : x.1 c (25 + (3 * b + j)) = nI s
          · rw [if_pos hv, if_pos ⟨by omega, hv⟩]
          · rw [if_neg hv, if_neg (fun q => hv q.2)]
        · rw [if_neg hk]
          by_cases hk2 : (25 + 3 * b ≤ k ∧ k < 25 + 3 * b + j) ∧ x.1 c k = nI s
          · rw [if_pos hk2, if_pos ⟨by omega, hk2.2⟩]
          · rw [if_neg hk2, if_neg (fun q => hk2 ⟨by omega, q.2⟩)]
      · rw [z_put1, if_neg hcp, z_set1, if_neg hcp, z_set1, if_neg hcp]
    rw [f_X8_goSplit_66]
    simp only [e13, z_in (show 13 + b < 61 by omega) (by omega), z_chk, z_N (show 13 + b < 2147483648 by omega), q]
    rw [if_neg (by rw [z_le (by omega) (by omega)]; omega)]
    simp only [e25, z_in (show 25 + (3 * b + j) < 61 by omega) (by omega), z_chk, z_N (show 25 + (3 * b + j) < 2147483648 by omega), q2, nI_1]
    have ih := mSplit_66 hb hL hc K (s := s) (n := n) r (j + 1) fu (by omega) (by omega)
    rw [← q3] at ih
    by_cases hv : x.1 p (25 + (3 * b + j)) = nI s
    · rw [if_pos hv]
      rw [if_pos hv] at ih
      exact ih
    · rw [if_neg hv]
      rw [if_neg hv] at ih
      exact ih
theorem mSplit {x : nz_S} {q : Nat} {G : zG} (h : zM x q G) (hV : zV G) {p s : Nat} (hp : p < G.1) (hs : s < G.1) (hn : G.1 < 12) : ∃ y, f_X8_goSplit q (nI p) (nI s) x = some (nI G.1, y) ∧ zM y q (gSplit G p s) ∧ (∀ c, c ≠ q → y.1 c = x.1 c) ∧ y.2 = x.2 := by
  have hlp := hV.l hp
  have hls := hV.l hs
  obtain ⟨x1, hx1⟩ : ∃ x1, x1 = nz_put (nz_put x q (1 + G.1) (G.2.1 s)) q (13 + G.1) (nI (G.2.2 s).length) := ⟨_, rfl⟩
  have f1 : ∀ k, x1.1 q k = if k = 13 + G.1 then nI (G.2.2 s).length else if k = 1 + G.1 then G.2.1 s else x.1 q k := fun k => by
    have t : (nz_put x q (1 + G.1) (G.2.1 s)).1 q k = if k = 1 + G.1 then G.2.1 s else x.1 q k := by rw [z_put1, if_pos rfl, z_upd]
    rw [hx1, z_put1, if_pos rfl, z_upd, t]
  obtain ⟨x2, hx2⟩ : ∃ x2, x2 = zs3 x1 q G.1 s 3 := ⟨_, rfl⟩
  have f2 : ∀ k, x2.1 q k = if 25 + 3 * G.1 ≤ k ∧ k < 25 + 3 * G.1 + 3 then x1.1 q (k - 3 * G.1 + 3 * s) else x1.1 q k := fun k => by rw [hx2]; unfold zs3; rw [z_set1, if_pos rfl]
  have cp : x2.1 q (13 + p) = nI (G.2.2 p).length := by rw [f2, if_neg (by omega), f1, if_neg (by omega), if_neg (by omega), h.c hp]
  obtain ⟨x3, hx3⟩ : ∃ x3, x3 = ztn x2 q p s G.1 (G.2.2 p).length := ⟨_, rfl⟩
  have f3 : ∀ k, x3.1 q k = if (25 + 3 * p ≤ k ∧ k < 25 + 3 * p + (G.2.2 p).length) ∧ x2.1 q k = nI s then nI G.1 else x2.1 q k := fun k => by rw [hx3]; unfold ztn; rw [z_set1, if_pos rfl]
  have z1 : zs3 x1 q G.1 s 0 = x1 := by
    refine nz_ext (fun c k => ?_) rfl
    unfold zs3
    by_cases hcq : c = q
    · subst hcq; rw [z_set1, if_pos rfl, if_neg (by omega)]
    · rw [z_set1, if_neg hcq]
  have z2 : ztn x2 q p s G.1 0 = x2 := by
    refine nz_ext (fun c k => ?_) rfl
    unfold ztn
    by_cases hcq : c = q
    · subst hcq; rw [z_set1, if_pos rfl, if_neg (by omega)]
    · rw [z_set1, if_neg hcq]
  have x30 : x3.1 q 0 = nI G.1 := by rw [f3, if_neg (by omega), f2, if_neg (by omega), f1, if_neg (by omega), if_neg (by omega), h.n]
  have r1 := mSplit_29 (x := x1) (p := q) (n := G.1) (s := s) hs hn (nI p) (fun u21 x20 => f_X8_goSplit_66 q (nI p) (nI s) (nI G.1) nz_F 0 x20 fun u36 x35 => nz_chk (nz_in 0 61) <| nz_chk (nz_in 0 61) <| let x39 : nz_S := nz_put x35 q ((0 : Int32)).toNatClampNeg ((x35.1 q ((0 : Int32)).toNatClampNeg) + 1); some (nI G.1, x39)) 3 0 nz_F (by omega) (by decide)
  rw [z1, nI_0, ← hx2] at r1
  have r2 := mSplit_66 (x := x2) (p := q) (b := p) (s := s) (n := G.1) (L := (G.2.2 p).length) (by omega) hlp cp (fun u36 x35 => nz_chk (nz_in 0 61) <| nz_chk (nz_in 0 61) <| let x39 : nz_S := nz_put x35 q ((0 : Int32)).toNatClampNeg ((x35.1 q ((0 : Int32)).toNatClampNeg) + 1); some (nI G.1, x39)) (G.2.2 p).length 0 nz_F (by omega) (by unfold nz_F; omega)
  rw [z2, nI_0, ← hx3] at r2
  have o3 : ∀ c, c ≠ q → x3.1 c = x.1 c := fun c hc => by
    rw [hx3]; unfold ztn; rw [z_set1, if_neg hc, hx2]; unfold zs3; rw [z_set1, if_neg hc, hx1, z_put1, if_neg hc, z_put1, if_neg hc]
  refine ⟨nz_put x3 q 0 (nI (G.1 + 1)), ?_, zM.mk ?_ (fun c hc => ?_), fun c hc => ?_, ?_⟩
  · have u1 : (nz_put x q (1 + G.1) (G.2.1 s)).1 q (13 + s) = nI (G.2.2 s).length := by rw [z_put1, if_pos rfl, z_upd, if_neg (by omega), h.c hs]
    simp only [f_X8_goSplit, show nz_in 0 61 = true from rfl, z_chk, show ((0 : Int32)).toNatClampNeg = 0 from rfl, h.n, e1p, e13, z_in (show 1 + s < 61 by omega) (by omega), z_in (show 1 + G.1 < 61 by omega) (by omega), z_in (show 13 + s < 61 by omega) (by omega), z_in (show 13 + G.1 < 61 by omega) (by omega), z_N (show 1 + s < 2147483648 by omega), z_N (show 1 + G.1 < 2147483648 by omega), z_N (show 13 + s < 2147483648 by omega), z_N (show 13 + G.1 < 2147483648 by omega), h.a hs, u1, ← hx1]
    simp only [show nz_in 0 61 = true from rfl, z_chk, show ((0 : Int32)).toNatClampNeg = 0 from rfl] at r1 r2
    refine r1.trans (r2.trans ?_)
    rw [x30, nI_1]
  · rw [z_put1, if_pos rfl, z_upd, if_pos rfl]; rfl
  · have hc : c < G.1 + 1 := hc
    have g0 : ∀ k, k ≠ 0 → (nz_put x3 q 0 (nI (G.1 + 1))).1 q k = x3.1 q k := fun k hk => by rw [z_put1, if_pos rfl, z_upd, if_neg hk]
    show _ = (if c = G.1 then G.2.1 s else G.2.1 c) ∧ _ = nI (if c = G.1 then G.2.2 s else if c = p then (G.2.2 p).map (tr s G.1) else G.2.2 c).length ∧ ∀ i, i < (if c = G.1 then G.2.2 s else if c = p then (G.2.2 p).map (tr s G.1) else G.2.2 c).length → _ = nI ((if c = G.1 then G.2.2 s else if c = p then (G.2.2 p).map (tr s G.1) else G.2.2 c).getD i 0)
    have v1 : (nz_put x3 q 0 (nI (G.1 + 1))).1 q (1 + c) = if 1 + c = 1 + G.1 then G.2.1 s else x.1 q (1 + c) := by
      rw [g0 _ (by omega), f3, if_neg (by omega), f2, if_neg (by omega), f1, if_neg (by omega)]
    have v2 : (nz_put x3 q 0 (nI (G.1 + 1))).1 q (13 + c) = if 13 + c = 13 + G.1 then nI (G.2.2 s).length else if 13 + c = 1 + G.1 then G.2.1 s else x.1 q (13 + c) := by
      rw [g0 _ (by omega), f3, if_neg (by omega), f2, if_neg (by omega), f1]
    rw [v1, v2]
    by_cases h1 : c = G.1
    · subst h1
      simp only [if_true]
      refine ⟨trivial, trivial, fun i hi => ?_⟩
      rw [g0 _ (by omega), f3, if_neg (by omega), f2, if_pos (by omega), show 25 + (3 * G.1 + i) - 3 * G.1 + 3 * s = 25 + (3 * s + i) by omega, f1, if_neg (by omega), if_neg (by omega), h.t hs hi]
    · have h1a : ¬ 13 + c = 13 + G.1 := by omega
      have h1b : ¬ 1 + c = 1 + G.1 := by omega
      have h1c : ¬ 13 + c = 1 + G.1 := by omega
      rw [if_neg h1b, if_neg h1a, if_neg h1c]
      simp only [if_neg h1]
      have hlc := hV.l (show c < G.1 by omega)
      have k2 : ∀ i, i < 3 → x2.1 q (25 + (3 * c + i)) = x.1 q (25 + (3 * c + i)) := fun i hi => by
        rw [f2, if_neg (by omega), f1, if_neg (by omega), if_neg (by omega)]
      by_cases h2 : c = p
      · subst h2
        simp only [if_true, List.length_map]
        refine ⟨h.a (by omega), h.c (by omega), fun i hi => ?_⟩
        have hti := hV.t hp hi
        rw [g0 _ (by omega), f3, k2 i (by omega), h.t hp hi, getD_map hi]
        unfold tr
        by_cases ht : (G.2.2 c).getD i 0 = s
        · rw [if_pos ⟨by omega, by rw [ht]⟩, if_pos ht]
        · rw [if_neg (fun w => ht ((z_eq (by omega) (by omega)).mp w.2)), if_neg ht]
      · simp only [if_neg h2]
        refine ⟨h.a (by omega), h.c (by omega), fun i hi => ?_⟩
        rw [g0 _ (by omega), f3, if_neg (by omega), k2 i (by omega), h.t (by omega) hi]
  · rw [z_put1, if_neg hc, o3 c hc]
  · rw [z_put2, hx3, hx2, hx1]; rfl
theorem sim_split (v w : Int32) (a b : nz_S) (h : zR a b) : nz_both zR (f_X7_split v w a) (f_X8_split v w b) := by
  obtain ⟨-, ⟨G, hV, hk, hm⟩, -⟩ := id h
  have hk : zK a 3 G := hk
  have hm : zM b 3 G := hm
  have hn := hV.1
  have em : eM b (nz_put b 0 0 0) := eM_put0 _ _ _ (by omega)
  have hm0 : zM (nz_put b 0 0 0) 3 G := zM_eq hm (em.1 3 (by omega))
  obtain ⟨a1, t1, t2, t3, t4⟩ := kTry hV hk
  by_cases h1 : (0 ≤ v.toInt ∧ v.toInt < (G.1 : Int))
  · by_cases h2 : (0 ≤ w.toInt ∧ w.toInt < (G.1 : Int))
    · obtain ⟨p, hp, rfl⟩ := ib_ex h1
      obtain ⟨s, hs, rfl⟩ := ib_ex h2
      cases hgo : gGo G p s with
      | false =>
        refine ⟨-3, a1, nz_put b 0 0 0, ?_, ?_, h.eq t4 em⟩
        · have : f_X0_copyBlockFor 7 (nI p) (nI s) a1 = some (-3, a1) := by
            simp only [f_X0_copyBlockFor, kHB t2 hV, if_pos h1, if_pos h2, z_bnd, one0, if_false, kGoes t2 hV hp (show s < 100 by omega), hgo, Bool.false_eq_true, if_true]
          simp only [f_X7_split, t1, this, z_bnd, settleN (-3) (by decide)]
        · simp only [f_X8_split, mNB hm0 hV, if_pos h1, if_pos h2, z_bnd, if_true, mGoes hm0 hV hp (show s < 100 by omega), hgo, Bool.false_eq_true, if_false]
      | true =>
        by_cases hf : G.1 = 12
        · have k12 : nI G.1 = 12 := by rw [hf]; rfl
          have k12' : ¬ nI G.1 < 12 := by rw [hf]; decide
          refine ⟨-4, a1, nz_put b 0 0 0, ?_, ?_, h.eq t4 em⟩
          · have : f_X0_copyBlockFor 7 (nI p) (nI s) a1 = some (-4, a1) := by
              simp only [f_X0_copyBlockFor, kHB t2 hV, if_pos h1, if_pos h2, z_bnd, one0, if_false, kGoes t2 hV hp (show s < 100 by omega), hgo, if_true, f_X0_appendBlock, t2.n, k12', z_in (show s < 12 by omega) (by omega), z_chk]
            simp only [f_X7_split, t1, this, z_bnd, settleN (-4) (by decide)]
          · simp only [f_X8_split, mNB hm0 hV, if_pos h1, if_pos h2, z_bnd, if_true, mGoes hm0 hV hp (show s < 100 by omega), hgo, one0, if_false, show nz_in 0 61 = true from rfl, z_chk, show ((0 : Int32)).toNatClampNeg = 0 from rfl, hm0.n, k12]
        · obtain ⟨y, y1, y2, y4, y5⟩ := kSplit t2 hV hp hs (by omega) hgo
          have ey : eK a y := t4.tr ⟨fun d hd => y4 d (by omega), y5⟩
          obtain ⟨a', s1, b1, s2, s3, s4⟩ := doing h em hV hk hm ey (gSplit_V hV hp hs (by omega)) y2 (r := G.1) (by omega)
          obtain ⟨z, u1, u2, u3, u4⟩ := mSplit s3 hV hp hs (by omega)
          have k12 : ¬ nI G.1 = 12 := fun e => hf ((z_eq (b := 12) (by omega) (by omega)).mp e)
          refine ⟨nI G.1, a', z, ?_, ?_, s4 _ u3 u4 u2⟩
          · simp only [f_X7_split, t1, y1, s1, z_bnd]
          · simp only [f_X8_split, mNB hm0 hV, if_pos h1, if_pos h2, z_bnd, if_true, mGoes hm0 hV hp (show s < 100 by omega), hgo, one0, if_false, show nz_in 0 61 = true from rfl, z_chk, show ((0 : Int32)).toNatClampNeg = 0 from rfl, hm0.n, k12, s2, u1]
    · refine ⟨-1, a1, nz_put b 0 0 0, ?_, ?_, h.eq t4 em⟩
      · have : f_X0_copyBlockFor 7 v w a1 = some (-1, a1) := by
          simp only [f_X0_copyBlockFor, kHB t2 hV, if_pos h1, if_neg h2, z_bnd, one0, if_false, if_true]
        simp only [f_X7_split, t1, this, z_bnd, settleN (-1) (by decide)]
      · simp only [f_X8_split, mNB hm0 hV, if_pos h1, if_neg h2, z_bnd, if_true, one0, if_false]
  · refine ⟨-1, a1, nz_put b 0 0 0, ?_, ?_, h.eq t4 em⟩
    · have : f_X0_copyBlockFor 7 v w a1 = some (-1, a1) := by
        simp only [f_X0_copyBlockFor, kHB t2 hV, if_neg h1, z_bnd, if_true]
      simp only [f_X7_split, t1, this, z_bnd, settleN (-1) (by decide)]
    · simp only [f_X8_split, mNB hm0 hV, if_neg h1, z_bnd, one0, if_false]
