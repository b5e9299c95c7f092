/-! ===== THE TEXT read as a graph ===== -/
def zL (G : zG) : Prop := G.1 ≤ 12 ∧ ∀ b, b < G.1 → (G.2.2 b).length ≤ 3
theorem zL.l {G : zG} (h : zL G) {b : Nat} (hb : b < G.1) : (G.2.2 b).length ≤ 3 := h.2 b hb
theorem kAddQ {x : nz_S} {g : Nat} {G : zG} (h : zK x g G) (hV : zL G) {b t : Nat} (hb : b < G.1) (hl : (G.2.2 b).length < 3) : zK (nz_put (nz_put x (g + 3) (3 * b + (G.2.2 b).length) (nI t)) (g + 2) b (nI ((G.2.2 b).length + 1))) g (gAdd G b t) := by
  have hn := hV.1
  refine zK.mk ?_ (fun c hc => ?_)
  · rw [z_put1, if_neg (by omega), z_put1, if_neg (by omega), h.n]; rfl
  · have hc : c < G.1 := hc
    have hlc := hV.l hc
    refine ⟨?_, ?_, ?_⟩
    · rw [z_put1, if_neg (by omega), z_put1, if_neg (by omega), h.a hc]; rfl
    · show _ = nI (if c = b then G.2.2 b ++ [t] else G.2.2 c).length
      rw [z_put1, if_pos rfl, z_upd]
      by_cases hcb : c = b
      · rw [if_pos hcb, if_pos hcb, List.length_append]; rfl
      · rw [if_neg hcb, if_neg hcb, z_put1, if_neg (by omega), h.c hc]
    · show ∀ i, i < (if c = b then G.2.2 b ++ [t] else G.2.2 c).length → _ = nI ((if c = b then G.2.2 b ++ [t] else G.2.2 c).getD i 0)
      intro i hi
      rw [z_put1, if_neg (by omega), z_put1, if_pos rfl, z_upd]
      by_cases hcb : c = b
      · subst hcb
        simp only [if_true] at hi ⊢
        rw [getD_app hi]
        rw [List.length_append] at hi
        simp only [List.length_cons, List.length_nil] at hi
        by_cases hi2 : i = (G.2.2 c).length
        · rw [if_pos hi2, if_pos (by omega)]
        · rw [if_neg hi2, if_neg (by omega), h.t hc (by omega)]
      · simp only [if_neg hcb] at hi ⊢
        rw [if_neg (by omega), h.t hc hi]
theorem kBlkQ {x : nz_S} {g : Nat} {G : zG} (h : zK x g G) (hV : zL G) (v : Int32) (hn : G.1 < 12) : ∃ y, f_X0_appendBlock g v x = some (1, y) ∧ zK y g (gBlk G v) ∧ (∀ c, c < g ∨ g + 3 ≤ c → y.1 c = x.1 c) ∧ y.2 = x.2 := by
  have k1 : nI G.1 < 12 := (z_lt (b := 12) (by omega) (by omega)).mpr hn
  have q1 : (nz_put x (g + 1) G.1 v).1 g 3 = nI G.1 := by rw [z_put1, if_neg (by omega), h.n]
  have q2 : (nz_put (nz_put x (g + 1) G.1 v) (g + 2) G.1 0).1 g 3 = nI G.1 := by rw [z_put1, if_neg (by omega), q1]
  refine ⟨nz_put (nz_put (nz_put x (g + 1) G.1 v) (g + 2) G.1 0) g 3 (nI (G.1 + 1)), ?_, zK.mk ?_ (fun c hc => ?_), ?_, rfl⟩
  · simp only [f_X0_appendBlock, h.n, k1, if_true, z_in (show G.1 < 12 by omega) (by omega), z_chk, z_N (show G.1 < 2147483648 by omega), q1, q2, nI_1]
  · rw [z_put1, if_pos rfl, z_upd, if_pos rfl]; rfl
  · have hc : c < G.1 + 1 := hc
    show _ = (if c = G.1 then v else G.2.1 c) ∧ _ = nI (if c = G.1 then [] else G.2.2 c).length ∧ ∀ i, i < (if c = G.1 then [] else G.2.2 c).length → _ = nI ((if c = G.1 then [] else G.2.2 c).getD i 0)
    have f1 : (nz_put (nz_put (nz_put x (g + 1) G.1 v) (g + 2) G.1 0) g 3 (nI (G.1 + 1))).1 (g + 1) c = if c = G.1 then v else x.1 (g + 1) c := by
      rw [z_put1, if_neg (by omega), z_put1, if_neg (by omega), z_put1, if_pos rfl, z_upd]
    have f2 : (nz_put (nz_put (nz_put x (g + 1) G.1 v) (g + 2) G.1 0) g 3 (nI (G.1 + 1))).1 (g + 2) c = if c = G.1 then 0 else x.1 (g + 2) c := by
      have t : (nz_put x (g + 1) G.1 v).1 (g + 2) = x.1 (g + 2) := by rw [z_put1, if_neg (by omega)]
      rw [z_put1, if_neg (by omega), z_put1, if_pos rfl, z_upd, t]
    have f3 : ∀ i, (nz_put (nz_put (nz_put x (g + 1) G.1 v) (g + 2) G.1 0) g 3 (nI (G.1 + 1))).1 (g + 3) i = x.1 (g + 3) i := fun i => by
      rw [z_put1, if_neg (by omega), z_put1, if_neg (by omega), z_put1, if_neg (by omega)]
    rw [f1, f2]
    by_cases h1 : c = G.1
    · simp only [if_pos h1]
      exact ⟨trivial, rfl, fun i hi => by simp at hi⟩
    · simp only [if_neg h1]
      refine ⟨h.a (by omega), h.c (by omega), fun i hi => ?_⟩
      rw [f3]
      exact h.t (by omega) hi
  · intro c hc
    rw [z_put1, if_neg (by omega), z_put1, if_neg (by omega), z_put1, if_neg (by omega)]
def zQ (told : Nat) (P : zG) : Prop := P.1 ≤ told ∧ told ≤ 8 ∧ ∀ b, b < P.1 → (P.2.2 b).length ≤ 3 ∧ ∀ t, t ∈ P.2.2 b → t < told
theorem zQ.L {told : Nat} {P : zG} (h : zQ told P) : zL P := ⟨by have := h.1; have := h.2.1; omega, fun b hb => (h.2.2 b hb).1⟩
theorem zQ.V {told : Nat} {P : zG} (h : zQ told P) (e : P.1 = told) : zV P := ⟨by have := h.2.1; omega, fun b hb => by rw [e]; exact h.2.2 b hb⟩
theorem zQ_blk {told : Nat} {P : zG} (h : zQ told P) (hs : P.1 < told) (v : Int32) : zQ told (gBlk P v) := by
  refine ⟨by show P.1 + 1 ≤ told; omega, h.2.1, fun b hb => ?_⟩
  have hb : b < P.1 + 1 := hb
  show (if b = P.1 then [] else P.2.2 b).length ≤ 3 ∧ ∀ t, t ∈ (if b = P.1 then [] else P.2.2 b) → t < told
  by_cases q : b = P.1
  · rw [if_pos q]; exact ⟨by simp, fun t ht => by simp at ht⟩
  · rw [if_neg q]; exact h.2.2 b (by omega)
theorem zQ_add {told : Nat} {P : zG} (h : zQ told P) {b d : Nat} (hb : b < P.1) (hd : d < told) (hl : (P.2.2 b).length < 3) : zQ told (gAdd P b d) := by
  refine ⟨h.1, h.2.1, fun c hc => ?_⟩
  have hc : c < P.1 := hc
  show (if c = b then P.2.2 b ++ [d] else P.2.2 c).length ≤ 3 ∧ ∀ s, s ∈ (if c = b then P.2.2 b ++ [d] else P.2.2 c) → s < told
  by_cases q : c = b
  · rw [if_pos q]
    refine ⟨by rw [List.length_append]; simp; omega, fun s hs => ?_⟩
    rcases List.mem_append.mp hs with w | w
    · exact (h.2.2 b hb).2 s w
    · rw [List.mem_singleton.mp w]; exact hd
  · rw [if_neg q]; exact h.2.2 c hc
def isA (t : Nat) : Prop := 97 ≤ t ∧ t ≤ 122
def isD (told t : Nat) : Prop := 48 ≤ t ∧ t < 48 + told
/-! the class: one letter -/
theorem eK_c {x y : nz_S} (h : ∀ c, c < 7 ∨ 10 < c → y.1 c = x.1 c) (h2 : y.2 = x.2) : eK x y := ⟨fun c hc => h c (by omega), h2⟩
theorem kLetA {told t : Nat} {P : zG} (hQ : zQ told P) {x : nz_S} (hk : zK x 7 P) (ha : isA t) (hs : P.1 < told) : ∃ x', f_X6_readLetter 7 (nI told) (nI t) x = some (1, x') ∧ zK x' 7 (gBlk P (nI t)) ∧ eK x x' := by
  have h8 := hQ.2.1
  obtain ⟨a1, a2⟩ := ha
  obtain ⟨x', y1, y2, y3, y4⟩ := kBlkQ hk hQ.L (nI t) (by omega)
  refine ⟨x', ?_, y2, eK_c (fun c hc => y3 c (by omega)) y4⟩
  unfold f_X6_readLetter
  rw [if_neg (by rw [show (97 : Int32) = nI 97 from rfl, z_lt (by omega) (by omega)]; omega), if_neg (by rw [show (122 : Int32) = nI 122 from rfl, z_lt (by omega) (by omega)]; omega), hk.n, if_neg (by rw [z_le (by omega) (by omega)]; omega), y1, z_bnd, if_neg one0]
theorem kLast_ {x : nz_S} {P : zG} (hL : zL P) (hk : zK x 7 P) (d : Int32) : f_X0_appendArcToLast 7 d x = if P.1 = 0 then some (0, x) else if (P.2.2 (P.1 - 1)).length < 3 then some (1, nz_put (nz_put x 10 (3 * (P.1 - 1) + (P.2.2 (P.1 - 1)).length) d) 9 (P.1 - 1) (nI ((P.2.2 (P.1 - 1)).length + 1))) else some (0, x) := by
  have h12 := hL.1
  unfold f_X0_appendArcToLast
  rw [hk.n]
  by_cases h0 : P.1 = 0
  · rw [if_pos (by rw [h0]; rfl), if_pos h0]
  · have e1 : nI P.1 - 1 = nI (P.1 - 1) := pk_sub (b := 1) (by omega)
    have hl := hL.l (show P.1 - 1 < P.1 by omega)
    have hc : x.1 (7 + 2) (P.1 - 1) = nI (P.2.2 (P.1 - 1)).length := hk.c (show P.1 - 1 < P.1 by omega)
    rw [if_neg (nI_nz0 (by omega) (by omega)), if_neg h0]
    simp only [e1, z_in (show P.1 - 1 < 12 by omega) (by omega), z_chk, z_N (show P.1 - 1 < 2147483648 by omega), hc]
    by_cases h3 : (P.2.2 (P.1 - 1)).length < 3
    · rw [if_pos (by rw [show (3 : Int32) = nI 3 from rfl, z_lt (by omega) (by omega)]; exact h3), if_pos h3, kPut (g := 7) (show P.1 - 1 < 12 by omega) h3 hc, z_bnd]
    · rw [if_neg (by rw [show (3 : Int32) = nI 3 from rfl, z_lt (by omega) (by omega)]; exact h3), if_neg h3]
theorem kLetD {told t s : Nat} {P : zG} (hQ : zQ told P) {x : nz_S} (hk : zK x 7 P) (hd : isD told t) (hs : P.1 = s + 1) (hl : (P.2.2 s).length < 3) : ∃ x', f_X6_readLetter 7 (nI told) (nI t) x = some (1, x') ∧ zK x' 7 (gAdd P s (t - 48)) ∧ eK x x' := by
  have h8 := hQ.2.1
  obtain ⟨a1, a2⟩ := hd
  have e1 : nI t - 48 = nI (t - 48) := pk_sub (b := 48) (by omega)
  have hL := kLast_ hQ.L hk (nI (t - 48))
  rw [if_neg (by omega), hs, show s + 1 - 1 = s by omega, if_pos hl] at hL
  refine ⟨_, ?_, kAddQ hk hQ.L (b := s) (t := t - 48) (by omega) hl, ?_⟩
  · unfold f_X6_readLetter
    rw [if_pos (by rw [show (97 : Int32) = nI 97 from rfl, z_lt (by omega) (by omega)]; omega)]
    simp only [e1]
    rw [if_neg (nI_pos (by omega)), if_neg (by rw [z_le (by omega) (by omega)]; omega), hL, z_bnd, if_neg one0]
  · exact eK_c (fun c hc => by rw [z_put1, if_neg (by omega), z_put1, if_neg (by omega)]) rfl
theorem kLetN {told t : Nat} (ht : t < 256) {P : zG} (hQ : zQ told P) {x : nz_S} (hk : zK x 7 P) (h1 : isA t → ¬ P.1 < told) (h2 : isD told t → P.1 = 0 ∨ ∃ s, P.1 = s + 1 ∧ (P.2.2 s).length = 3) : f_X6_readLetter 7 (nI told) (nI t) x = some (0, x) := by
  have h8 := hQ.2.1
  have hle := hQ.1
  have dig : (if nI t - 48 < (0 : Int32) then some ((0 : Int32), x) else if nI told ≤ nI t - 48 then some (0, x) else nz_bnd (f_X0_appendArcToLast 7 (nI t - 48) x) fun r5 x6 => if r5 = 0 then some ((0 : Int32), x6) else some (1, x6)) = some (0, x) := by
    by_cases q1 : t < 48
    · rw [if_pos (show nI t - 48 < 0 from pk_sneg (b := 48) (by omega) q1)]
    · have e1 : nI t - 48 = nI (t - 48) := pk_sub (b := 48) (by omega)
      rw [e1, if_neg (nI_pos (by omega))]
      by_cases q2 : t < 48 + told
      · rw [if_neg (by rw [z_le (by omega) (by omega)]; omega), kLast_ hQ.L hk]
        rcases h2 ⟨by omega, q2⟩ with q | ⟨s, q3, q4⟩
        · rw [if_pos q, z_bnd, if_pos rfl]
        · rw [if_neg (by omega), q3, show s + 1 - 1 = s by omega, if_neg (by omega), z_bnd, if_pos rfl]
      · rw [if_pos ((z_le (by omega) (by omega)).mpr (by omega))]
  unfold f_X6_readLetter
  by_cases q1 : t < 97
  · rw [if_pos (by rw [show (97 : Int32) = nI 97 from rfl, z_lt (by omega) (by omega)]; exact q1)]
    exact dig
  · rw [if_neg (by rw [show (97 : Int32) = nI 97 from rfl, z_lt (by omega) (by omega)]; exact q1)]
    by_cases q2 : 122 < t
    · rw [if_pos (by rw [show (122 : Int32) = nI 122 from rfl, z_lt (by omega) (by omega)]; exact q2)]
      exact dig
    · have := h1 ⟨by omega, by omega⟩
      rw [if_neg (by rw [show (122 : Int32) = nI 122 from rfl, z_lt (by omega) (by omega)]; exact q2), hk.n, if_pos ((z_le (by omega) (by omega)).mpr (by omega))]
/-- the letters that were written -/
abbrev zT : Type := Nat × (Nat → Nat)
def kT (x : nz_S) (T : zT) : Prop := x.1 1 1 = nI T.1 ∧ ∀ i, i < T.1 → x.1 2 i = nI (T.2 i)
def mT (y : nz_S) (T : zT) : Prop := y.1 0 2 = nI T.1 ∧ ∀ i, i < T.1 → y.1 1 i = nI (T.2 i)
def tV (T : zT) : Prop := T.1 ≤ 64 ∧ ∀ i, i < T.1 → T.2 i < 256
theorem rText_T {x y : nz_S} (h : rText (x.1 1 1) (x.1 2) (y.1 0 2) (y.1 1)) : ∃ T, tV T ∧ kT x T ∧ mT y T := by
  obtain ⟨n, hn, e1, e2, h⟩ := h
  have key : ∀ i, i < n → x.1 2 i = nI (x.1 2 i).toInt.toNat ∧ (x.1 2 i).toInt.toNat < 256 := fun i hi => by
    obtain ⟨h1, h2, h3⟩ := h i hi
    refine ⟨nz_i32 ?_, by omega⟩
    rw [nI_toInt (by omega)]; omega
  exact ⟨(n, fun i => (x.1 2 i).toInt.toNat), ⟨hn, fun i hi => (key i hi).2⟩, ⟨e1, fun i hi => (key i hi).1⟩, ⟨e2, fun i hi => by rw [← (h i hi).1]; exact (key i hi).1⟩⟩
theorem eK.T {x x' : nz_S} (h : eK x x') {T : zT} (hT : kT x T) : kT x' T := by
  unfold kT
  rw [h.1 1 (by omega), h.1 2 (by omega)]; exact hT
theorem kR_end {told : Nat} {T : zT} (hT : tV T) {x : nz_S} (hx : kT x T) (fu : Nat) (K : Int32 → nz_S → Option (Int32 × nz_S)) : f_X6_readInto_60 7 (nI told) (fu + 1) (nI T.1) x K = K (nI T.1) x := by
  have := hT.1
  rw [f_X6_readInto_60, hx.1, if_pos ((z_le (by omega) (by omega)).mpr (Nat.le_refl _))]
theorem kR_y {told p : Nat} {T : zT} (hT : tV T) {x x' : nz_S} (hx : kT x T) (hp : p < T.1) (h : f_X6_readLetter 7 (nI told) (nI (T.2 p)) x = some (1, x')) (fu : Nat) (K : Int32 → nz_S → Option (Int32 × nz_S)) : f_X6_readInto_60 7 (nI told) (fu + 1) (nI p) x K = f_X6_readInto_60 7 (nI told) fu (nI (p + 1)) x' K := by
  have := hT.1
  rw [f_X6_readInto_60, hx.1, if_neg (by rw [z_le (by omega) (by omega)]; omega)]
  simp only [z_in (show p < 64 by omega) (by omega), z_chk, z_N (show p < 2147483648 by omega), hx.2 p hp, h, z_bnd, one0, if_false, nI_1]
theorem kR_n {told p : Nat} {T : zT} (hT : tV T) {x : nz_S} (hx : kT x T) (hp : p < T.1) (h : f_X6_readLetter 7 (nI told) (nI (T.2 p)) x = some (0, x)) (fu : Nat) (K : Int32 → nz_S → Option (Int32 × nz_S)) : f_X6_readInto_60 7 (nI told) (fu + 1) (nI p) x K = some (nI p, x) := by
  have := hT.1
  rw [f_X6_readInto_60, hx.1, if_neg (by rw [z_le (by omega) (by omega)]; omega)]
  simp only [z_in (show p < 64 by omega) (by omega), z_chk, z_N (show p < 2147483648 by omega), hx.2 p hp, h, z_bnd, if_true]
/-! the reference -/
def fZ (y y' : nz_S) : Prop := (∀ c, c ≠ 0 → c ≠ 2 → y'.1 c = y.1 c) ∧ (∀ i, i ≠ 3 → y'.1 0 i = y.1 0 i) ∧ y'.2 = y.2
theorem fZ.rf (y : nz_S) : fZ y y := ⟨fun _ _ _ => rfl, fun _ _ => rfl, rfl⟩
theorem fZ.tr {x y z : nz_S} (h : fZ x y) (h2 : fZ y z) : fZ x z := ⟨fun c h0 hc => (h2.1 c h0 hc).trans (h.1 c h0 hc), fun i hi => (h2.2.1 i hi).trans (h.2.1 i hi), h2.2.2.trans h.2.2⟩
theorem fZ_p2 (y : nz_S) (i : Nat) (v : Int32) : fZ y (nz_put y 2 i v) := ⟨fun c h0 hc => by rw [z_put1, if_neg hc], fun j _ => by rw [z_put1, if_neg (by omega)], rfl⟩
theorem fZ_p3 (y : nz_S) (v : Int32) : fZ y (nz_put y 0 3 v) := ⟨fun c h0 _ => by rw [z_put1, if_neg h0], fun j hj => by rw [z_put1, if_pos rfl, z_upd, if_neg hj], rfl⟩
theorem fZ.T {y y' : nz_S} (h : fZ y y') {T : zT} (hT : mT y T) : mT y' T := by
  unfold mT
  rw [h.2.1 2 (by omega), h.1 1 (by omega) (by omega)]; exact hT
theorem fZ.eM {y y' : nz_S} (h : fZ y y') : eM y y' := ⟨fun c hc => h.1 c (by omega) (by omega), h.2.1 2 (by omega), h.2.1 8 (by omega), h.2.1 11 (by omega), h.2.2⟩
def mQ (y : nz_S) (P : zG) : Prop := ∀ b, b < P.1 → y.1 2 (1 + b) = P.2.1 b ∧ y.1 2 (13 + b) = nI (P.2.2 b).length ∧ ∀ i, i < (P.2.2 b).length → y.1 2 (25 + (3 * b + i)) = nI ((P.2.2 b).getD i 0)
theorem mLt {y : nz_S} {T : zT} (hT : tV T) (hy : mT y T) {p : Nat} (hp : p < 100) : f_X8_letterAt (nI p) y = some (if p < T.1 then nI (T.2 p) else -9, y) := by
  have h64 := hT.1
  unfold f_X8_letterAt
  rw [hy.1]
  by_cases h : p < T.1
  · rw [if_neg (by rw [z_le (by omega) (by omega)]; omega), z_in (show p < 64 by omega) (by omega), z_chk, z_N (show p < 2147483648 by omega), hy.2 p h, if_pos h]
  · rw [if_pos ((z_le (by omega) (by omega)).mpr (by omega)), if_neg h]
theorem mQ_blk {y : nz_S} {P : zG} (hL : zL P) (h12 : P.1 < 12) (h : mQ y P) (v w : Int32) : mQ (nz_put (nz_put (nz_put y 2 (1 + P.1) v) 2 (13 + P.1) 0) 0 3 w) (gBlk P v) := by
  intro b hb
  have hb : b < P.1 + 1 := hb
  have g : ∀ k, (nz_put (nz_put (nz_put y 2 (1 + P.1) v) 2 (13 + P.1) 0) 0 3 w).1 2 k = if k = 13 + P.1 then 0 else if k = 1 + P.1 then v else y.1 2 k := fun k => by
    rw [z_put1, if_neg (by omega), z_put1, if_pos rfl, z_upd]
    by_cases q : k = 13 + P.1
    · rw [if_pos q, if_pos q]
    · rw [if_neg q, if_neg q, z_put1, if_pos rfl, z_upd]
  show _ = (if b = P.1 then v else P.2.1 b) ∧ _ = nI (if b = P.1 then [] else P.2.2 b).length ∧ ∀ i, i < (if b = P.1 then [] else P.2.2 b).length → _ = nI ((if b = P.1 then [] else P.2.2 b).getD i 0)
  by_cases q : b = P.1
  · simp only [if_pos q]
    refine ⟨by rw [g, if_neg (by omega), if_pos (by omega)], by rw [g, if_pos (by omega)]; rfl, fun i hi => by simp at hi⟩
  · simp only [if_neg q]
    obtain ⟨h1, h2, h3⟩ := h b (by omega)
    have hl := hL.l (show b < P.1 by omega)
    refine ⟨by rw [g, if_neg (by omega), if_neg (by omega)]; exact h1, by rw [g, if_neg (by omega), if_neg (by omega)]; exact h2, fun i hi => by rw [g, if_neg (by omega), if_neg (by omega)]; exact h3 i hi⟩
theorem mQ_add {y : nz_S} {P : zG} (hL : zL P) {b d : Nat} (hb : b < P.1) (hl : (P.2.2 b).length < 3) (h : mQ y P) (w : Int32) : mQ (nz_put (nz_put (nz_put y 2 (25 + (3 * b + (P.2.2 b).length)) (nI d)) 2 (13 + b) (nI ((P.2.2 b).length + 1))) 0 3 w) (gAdd P b d) := by
  intro c hc
  have hc : c < P.1 := hc
  have h12 := hL.1
  have g : ∀ k, (nz_put (nz_put (nz_put y 2 (25 + (3 * b + (P.2.2 b).length)) (nI d)) 2 (13 + b) (nI ((P.2.2 b).length + 1))) 0 3 w).1 2 k = if k = 13 + b then nI ((P.2.2 b).length + 1) else if k = 25 + (3 * b + (P.2.2 b).length) then nI d else y.1 2 k := fun k => by
    rw [z_put1, if_neg (by omega), z_put1, if_pos rfl, z_upd]
    by_cases q : k = 13 + b
    · rw [if_pos q, if_pos q]
    · rw [if_neg q, if_neg q, z_put1, if_pos rfl, z_upd]
  obtain ⟨h1, h2, h3⟩ := h c hc
  have hlc := hL.l hc
  show _ = P.2.1 c ∧ _ = nI (if c = b then P.2.2 b ++ [d] else P.2.2 c).length ∧ ∀ i, i < (if c = b then P.2.2 b ++ [d] else P.2.2 c).length → _ = nI ((if c = b then P.2.2 b ++ [d] else P.2.2 c).getD i 0)
  refine ⟨by rw [g, if_neg (by omega), if_neg (by omega)]; exact h1, ?_, ?_⟩
  · by_cases q : c = b
    · rw [g, if_pos (by omega), if_pos q, List.length_append]; rfl
    · rw [g, if_neg (by omega), if_neg (by omega), if_neg q]; exact h2
  · intro i hi
    by_cases q : c = b
    · subst q
      simp only [if_true] at hi ⊢
      rw [getD_app hi]
      rw [List.length_append] at hi
      simp only [List.length_cons, List.length_nil] at hi
      by_cases hi2 : i = (P.2.2 c).length
      · rw [g, if_neg (by omega), if_pos (by omega), if_pos hi2]
      · rw [g, if_neg (by omega), if_neg (by omega), if_neg hi2]; exact h3 i (by omega)
    · simp only [if_neg q] at hi ⊢
      rw [g, if_neg (by omega), if_neg (by omega)]; exact h3 i hi
/-- the arcs of one block, on both sides -/
theorem rdD {told : Nat} {T : zT} (hT : tV T) (ht1 : 1 ≤ told) {b : Nat} : ∀ m p (x y : nz_S) (P : zG), (P.2.2 b).length + m = 3 → P.1 = b + 1 → p ≤ T.1 → zQ told P → kT x T → mT y T → zK x 7 P → mQ y P → y.1 0 3 = nI p → ∃ q x' y' P', p ≤ q ∧ q ≤ T.1 ∧ (∀ fu K, f_X6_readInto_60 7 (nI told) (fu + (q - p)) (nI p) x K = f_X6_readInto_60 7 (nI told) fu (nI q) x' K) ∧ (∀ fu K, m < fu → f_X8_readBlock_60 (nI b) (nI told) fu y K = K y') ∧ zK x' 7 P' ∧ mQ y' P' ∧ zQ told P' ∧ P'.1 = b + 1 ∧ y'.1 0 3 = nI q ∧ eK x x' ∧ fZ y y' ∧ (q < T.1 → isD told (T.2 q) → (P'.2.2 b).length = 3)
  | 0, p, x, y, P, hl, hP, hp, hQ, hx, hy, hk, hm, h3 => by
    have h8 := hQ.2.1
    have hle := hQ.1
    have e3 : (13 : Int32) + nI b = nI (13 + b) := by rw [show (13 : Int32) = nI 13 from rfl, nI_add]
    refine ⟨p, x, y, P, Nat.le_refl _, hp, fun fu K => by rw [Nat.sub_self, Nat.add_zero], fun fu K hf => ?_, hk, hm, hQ, hP, h3, eK.rf x, fZ.rf y, fun _ _ => hl⟩
    obtain ⟨fu, rfl⟩ : ∃ f, fu = f + 1 := ⟨fu - 1, by omega⟩
    have hc := (hm b (by omega)).2.1
    rw [f_X8_readBlock_60]
    simp only [e3, z_in (show 13 + b < 61 by omega) (by omega), z_chk, z_N (show 13 + b < 2147483648 by omega), hc]
    rw [if_pos (by rw [show (3 : Int32) = nI 3 from rfl, z_le (by omega) (by omega)]; omega)]
  | m + 1, p, x, y, P, hl, hP, hp, hQ, hx, hy, hk, hm, h3 => by
    have h8 := hQ.2.1
    have hle := hQ.1
    have h64 := hT.1
    have e3 : (13 : Int32) + nI b = nI (13 + b) := by rw [show (13 : Int32) = nI 13 from rfl, nI_add]
    have hc := (hm b (by omega)).2.1
    have et : (nI told - 1).toInt = (told : Int) - 1 := pk_sub_toInt (b := 1) (by omega) (by omega)
    have base : ∀ fu K, f_X8_readBlock_60 (nI b) (nI told) (fu + 1) y K = nz_bnd (f_X8_in (((if p < T.1 then nI (T.2 p) else -9) - (48 : Int32))).toInt64 0 ((nI told - 1)).toInt64 y) fun r23 x24 => if r23 = 0 then K x24 else nz_chk (nz_in (nI (13 + b)) 61) <| nz_chk (nz_in (x24.1 0 3) 64) <| nz_chk (nz_in (((25 : Int32) + ((3 : Int32) * nI b)) + (x24.1 2 (nI (13 + b)).toNatClampNeg)) 61) <| nz_chk (nz_in (nI (13 + b)) 61) <| nz_chk (nz_in (nI (13 + b)) 61) <| f_X8_readBlock_60 (nI b) (nI told) fu (nz_put (nz_put (nz_put x24 2 ((((25 : Int32) + ((3 : Int32) * nI b)) + (x24.1 2 (nI (13 + b)).toNatClampNeg))).toNatClampNeg ((x24.1 1 (x24.1 0 3).toNatClampNeg) - (48 : Int32))) 2 (nI (13 + b)).toNatClampNeg (((nz_put x24 2 ((((25 : Int32) + ((3 : Int32) * nI b)) + (x24.1 2 (nI (13 + b)).toNatClampNeg))).toNatClampNeg ((x24.1 1 (x24.1 0 3).toNatClampNeg) - (48 : Int32))).1 2 (nI (13 + b)).toNatClampNeg) + 1)) 0 3 (((nz_put (nz_put x24 2 ((((25 : Int32) + ((3 : Int32) * nI b)) + (x24.1 2 (nI (13 + b)).toNatClampNeg))).toNatClampNeg ((x24.1 1 (x24.1 0 3).toNatClampNeg) - (48 : Int32))) 2 (nI (13 + b)).toNatClampNeg (((nz_put x24 2 ((((25 : Int32) + ((3 : Int32) * nI b)) + (x24.1 2 (nI (13 + b)).toNatClampNeg))).toNatClampNeg ((x24.1 1 (x24.1 0 3).toNatClampNeg) - (48 : Int32))).1 2 (nI (13 + b)).toNatClampNeg) + 1)).1 0 3) + 1)) K := by
      intro fu K
      have c3 : ¬ (3 : Int32) ≤ nI (P.2.2 b).length := by rw [show (3 : Int32) = nI 3 from rfl, z_le (by omega) (by omega)]; omega
      rw [f_X8_readBlock_60]
      simp only [e3]
      rw [z_in (show 13 + b < 61 by omega) (by omega), z_chk, z_N (show 13 + b < 2147483648 by omega), hc, if_neg c3, h3, mLt hT hy (show p < 100 by omega), z_bnd]
    have stop : (∀ x' : nz_S, f_X8_in (((if p < T.1 then nI (T.2 p) else -9) - (48 : Int32))).toInt64 0 ((nI told - 1)).toInt64 y = some (0, y)) → (p < T.1 → ¬ isD told (T.2 p)) → ∃ q x' y' P', p ≤ q ∧ q ≤ T.1 ∧ (∀ fu K, f_X6_readInto_60 7 (nI told) (fu + (q - p)) (nI p) x K = f_X6_readInto_60 7 (nI told) fu (nI q) x' K) ∧ (∀ fu K, m + 1 < fu → f_X8_readBlock_60 (nI b) (nI told) fu y K = K y') ∧ zK x' 7 P' ∧ mQ y' P' ∧ zQ told P' ∧ P'.1 = b + 1 ∧ y'.1 0 3 = nI q ∧ eK x x' ∧ fZ y y' ∧ (q < T.1 → isD told (T.2 q) → (P'.2.2 b).length = 3) := by
      intro hin hnd
      refine ⟨p, x, y, P, Nat.le_refl _, hp, fun fu K => by rw [Nat.sub_self, Nat.add_zero], fun fu K hf => ?_, hk, hm, hQ, hP, h3, eK.rf x, fZ.rf y, fun q1 q2 => absurd q2 (hnd q1)⟩
      obtain ⟨fu, rfl⟩ : ∃ f, fu = f + 1 := ⟨fu - 1, by omega⟩
      rw [base, hin x, z_bnd, if_pos rfl]
    by_cases hpn : p < T.1
    · have ht := hT.2 p hpn
      by_cases hd : isD told (T.2 p)
      · obtain ⟨a1, a2⟩ := id hd
        have e48 : nI (T.2 p) - 48 = nI (T.2 p - 48) := pk_sub (b := 48) (by omega)
        have e5 : (25 : Int32) + 3 * nI b + nI (P.2.2 b).length = nI (25 + (3 * b + (P.2.2 b).length)) := by
          rw [show (25 : Int32) = nI 25 from rfl, show (3 : Int32) = nI 3 from rfl, pk_mul, nI_add, nI_add, Nat.add_assoc]
        obtain ⟨x1, y1, y2, y3⟩ := kLetD hQ hk hd hP (by omega)
        have g1 : (nz_put y 2 (25 + (3 * b + (P.2.2 b).length)) (nI (T.2 p - 48))).1 2 (13 + b) = nI (P.2.2 b).length := by rw [z_put1, if_pos rfl, z_upd, if_neg (by omega), hc]
        have g2 : (nz_put (nz_put y 2 (25 + (3 * b + (P.2.2 b).length)) (nI (T.2 p - 48))) 2 (13 + b) (nI ((P.2.2 b).length + 1))).1 0 3 = nI p := by rw [z_put1, if_neg (by omega), z_put1, if_neg (by omega), h3]
        obtain ⟨y4, hy4⟩ : ∃ y4, y4 = nz_put (nz_put (nz_put y 2 (25 + (3 * b + (P.2.2 b).length)) (nI (T.2 p - 48))) 2 (13 + b) (nI ((P.2.2 b).length + 1))) 0 3 (nI (p + 1)) := ⟨_, rfl⟩
        have f4 : fZ y y4 := by rw [hy4]; exact ((fZ_p2 y _ _).tr (fZ_p2 _ _ _)).tr (fZ_p3 _ _)
        have m4 : mQ y4 (gAdd P b (T.2 p - 48)) := by rw [hy4]; exact mQ_add hQ.L (by omega) (by omega) hm _
        have l4 : ((gAdd P b (T.2 p - 48)).2.2 b).length = (P.2.2 b).length + 1 := by
          show (if b = b then P.2.2 b ++ [T.2 p - 48] else P.2.2 b).length = _
          rw [if_pos rfl, List.length_append]; rfl
        obtain ⟨q, x', y', P', i1, i2, i3, i4, i5, i6, i7, i8, i9, i10, i11, i12⟩ := rdD hT ht1 m (p + 1) x1 y4 (gAdd P b (T.2 p - 48)) (by omega) hP (by omega) (zQ_add hQ (by omega) (by omega) (by omega)) (y3.T hx) (f4.T hy) y2 m4 (by rw [hy4, z_put1, if_pos rfl, z_upd, if_pos rfl])
        refine ⟨q, x', y', P', by omega, i2, fun fu K => ?_, fun fu K hf => ?_, i5, i6, i7, i8, i9, y3.tr i10, f4.tr i11, i12⟩
        · rw [show fu + (q - p) = fu + (q - (p + 1)) + 1 by omega, kR_y hT hx hpn y1, i3]
        · obtain ⟨fu, rfl⟩ : ∃ f, fu = f + 1 := ⟨fu - 1, by omega⟩
          have hin : f_X8_in (nI (T.2 p - 48)).toInt64 0 ((nI told - 1)).toInt64 y = some (1, y) := by
            rw [in_eqI, l0, i64_toInt, et, nI_toInt (by omega), if_pos (by omega)]
          rw [base, if_pos hpn, e48, hin, z_bnd, if_neg one0]
          simp only [z_in (show 13 + b < 61 by omega) (by omega), z_chk, z_N (show 13 + b < 2147483648 by omega), h3, z_in (show p < 64 by omega) (by omega), z_N (show p < 2147483648 by omega), hc, e5, z_in (show 25 + (3 * b + (P.2.2 b).length) < 61 by omega) (by omega), z_N (show 25 + (3 * b + (P.2.2 b).length) < 2147483648 by omega), hy.2 p hpn, e48, g1, nI_1, g2]
          rw [← hy4]
          exact i4 fu K (by omega)
      · refine stop (fun _ => ?_) (fun _ => hd)
        rw [if_pos hpn]
        by_cases q1 : T.2 p < 48
        · have hneg := pk_sneg (a := T.2 p) (b := 48) (by omega) q1
          rw [in_eqI, l0, if_neg]
          rw [fa_lt, i0] at hneg
          have e : nI (T.2 p) - nI 48 = nI (T.2 p) - 48 := rfl
          rw [e] at hneg
          omega
        · have e48 : nI (T.2 p) - 48 = nI (T.2 p - 48) := pk_sub (b := 48) (by omega)
          have : ¬ T.2 p < 48 + told := fun q2 => hd ⟨by omega, q2⟩
          rw [e48, in_eqI, l0, i64_toInt, et, nI_toInt (by omega), if_neg (by omega)]
    · refine stop (fun _ => ?_) (fun q => absurd q hpn)
      rw [if_neg hpn, in_eqI, l0, show ((-9 : Int32) - 48).toInt = -57 by decide, if_neg (by omega)]
/-- block by block -/
theorem rdB {told : Nat} {T : zT} (hT : tV T) (ht1 : 1 ≤ told) (ht8 : told ≤ 8) : ∀ m b p f1 f2 (x y : nz_S) (P : zG), b + m = told → T.1 - p + 1 < f1 → m < f2 → P.1 = b → p ≤ T.1 → zQ told P → kT x T → mT y T → zK x 7 P → mQ y P → y.1 0 3 = nI p → (p < T.1 → isD told (T.2 p) → b = 0 ∨ ∃ s, b = s + 1 ∧ (P.2.2 s).length = 3) → ∃ ans x' y', f_X6_readInto_60 7 (nI told) f1 (nI p) x (fun _ x17 => if nI told ≤ (x17.1 7 3) then some ((-9 : Int32), x17) else some ((x17.1 1 1), x17)) = some (ans, x') ∧ f_X8_readGraph_73 (nI told) f2 (nI b) y (fun _ x28 => nz_chk (nz_in (0 : Int32) 61) <| if ((nz_put x28 2 ((0 : Int32)).toNatClampNeg (nI told)).1 0 3) = ((nz_put x28 2 ((0 : Int32)).toNatClampNeg (nI told)).1 0 2) then some ((-9 : Int32), nz_put x28 2 ((0 : Int32)).toNatClampNeg (nI told)) else some (((nz_put x28 2 ((0 : Int32)).toNatClampNeg (nI told)).1 0 3), nz_put x28 2 ((0 : Int32)).toNatClampNeg (nI told))) = some (ans, y') ∧ eK x x' ∧ fZ y y' ∧ (ans = -9 → ∃ P, zV P ∧ zK x' 7 P ∧ zM y' 2 P)
  | 0, b, p, f1 + 1, f2 + 1, x, y, P, e, hf1, hf2, hP, hp, hQ, hx, hy, hk, hm, h3, hM => by
    have h64 := hT.1
    have e0 : ((0 : Int32)).toNatClampNeg = 0 := rfl
    have hb : b = told := by omega
    have g3 : (nz_put y 2 0 (nI told)).1 0 3 = nI p := by rw [z_put1, if_neg (by omega), h3]
    have g2 : (nz_put y 2 0 (nI told)).1 0 2 = nI T.1 := by rw [z_put1, if_neg (by omega), hy.1]
    have rf : ∀ K : Int32 → nz_S → Option (Int32 × nz_S), f_X8_readGraph_73 (nI told) (f2 + 1) (nI b) y K = K (nI b) y := fun K => by
      rw [f_X8_readGraph_73, if_pos ((z_le (by omega) (by omega)).mpr (by omega))]
    rw [rf]
    simp only [show nz_in 0 61 = true from rfl, z_chk, e0, g3, g2]
    by_cases hpn : p = T.1
    · refine ⟨-9, x, nz_put y 2 0 (nI told), ?_, ?_, eK.rf x, fZ_p2 _ _ _, fun _ => ⟨P, hQ.V (by omega), hk, zM.mk ?_ (fun c hc => ?_)⟩⟩
      · rw [hpn, kR_end hT hx, hk.n, if_pos ((z_le (by omega) (by omega)).mpr (by omega))]
      · rw [hpn, if_pos rfl]
      · rw [z_put1, if_pos rfl, z_upd, if_pos rfl, hP, hb]
      · obtain ⟨q1, q2, q3⟩ := hm c hc
        refine ⟨?_, ?_, fun i hi => ?_⟩
        · rw [z_put1, if_pos rfl, z_upd, if_neg (by omega)]; exact q1
        · rw [z_put1, if_pos rfl, z_upd, if_neg (by omega)]; exact q2
        · rw [z_put1, if_pos rfl, z_upd, if_neg (by omega)]; exact q3 i hi
    · have hpl : p < T.1 := by omega
      refine ⟨nI p, x, nz_put y 2 0 (nI told), ?_, ?_, eK.rf x, fZ_p2 _ _ _, fun q => absurd q (z_m9 (by omega))⟩
      · refine kR_n hT hx hpl (kLetN (hT.2 p hpl) hQ hk (fun _ => by omega) (fun hd => ?_)) f1 _
        rcases hM hpl hd with q | ⟨s, q1, q2⟩
        · exact Or.inl (by omega)
        · exact Or.inr ⟨s, by omega, q2⟩
      · rw [if_neg (by rw [z_eq (by omega) (by omega)]; exact hpn)]
  | m + 1, b, p, f1 + 1, f2 + 1, x, y, P, e, hf1, hf2, hP, hp, hQ, hx, hy, hk, hm, h3, hM => by
    have h64 := hT.1
    have e1p : (1 : Int32) + nI b = nI (1 + b) := by rw [show (1 : Int32) = nI 1 from rfl, nI_add]
    have e3 : (13 : Int32) + nI b = nI (13 + b) := by rw [show (13 : Int32) = nI 13 from rfl, nI_add]
    have fail : f_X8_readBlock (nI b) (nI told) y = some (0, y) → ∀ K : Int32 → nz_S → Option (Int32 × nz_S), f_X8_readGraph_73 (nI told) (f2 + 1) (nI b) y K = some (nI p, y) := fun h K => by
      rw [f_X8_readGraph_73, if_neg (by rw [z_le (by omega) (by omega)]; omega), h, z_bnd, if_pos rfl, h3]
    by_cases hpn : p < T.1
    · have ht := hT.2 p hpn
      by_cases ha : isA (T.2 p)
      · obtain ⟨a1, a2⟩ := id ha
        obtain ⟨x1, y1, y2, y3⟩ := kLetA hQ hk ha (by omega)
        obtain ⟨y4, hy4⟩ : ∃ y4, y4 = nz_put (nz_put (nz_put y 2 (1 + b) (nI (T.2 p))) 2 (13 + b) 0) 0 3 (nI (p + 1)) := ⟨_, rfl⟩
        have f4 : fZ y y4 := by rw [hy4]; exact ((fZ_p2 y _ _).tr (fZ_p2 _ _ _)).tr (fZ_p3 _ _)
        have m4 : mQ y4 (gBlk P (nI (T.2 p))) := by
          rw [hy4, ← hP]
          exact mQ_blk hQ.L (by omega) hm _ _
        have l4 : ((gBlk P (nI (T.2 p))).2.2 b).length = 0 := by
          show (if b = P.1 then [] else P.2.2 b).length = 0
          rw [if_pos hP.symm]; rfl
        obtain ⟨q, x', y', P', i1, i2, i3, i4, i5, i6, i7, i8, i9, i10, i11, i12⟩ := rdD hT ht1 (b := b) 3 (p + 1) x1 y4 (gBlk P (nI (T.2 p))) (by omega) (by show P.1 + 1 = b + 1; omega) (by omega) (zQ_blk hQ (by omega) _) (y3.T hx) (f4.T hy) y2 m4 (by rw [hy4, z_put1, if_pos rfl, z_upd, if_pos rfl])
        have eK2 := y3.tr i10
        have fZ2 := f4.tr i11
        obtain ⟨ans, x2, y5, w1, w2, w3, w4, w5⟩ := rdB hT ht1 ht8 m (b + 1) q (f1 - (q - (p + 1))) f2 x' y' P' (by omega) (by omega) (by omega) i8 i2 i7 (eK2.T hx) (fZ2.T hy) i5 i6 i9 (fun q1 q2 => Or.inr ⟨b, rfl, i12 q1 q2⟩)
        refine ⟨ans, x2, y5, ?_, ?_, eK2.tr w3, fZ2.tr w4, w5⟩
        · rw [kR_y hT hx hpn y1, show f1 = (f1 - (q - (p + 1))) + (q - (p + 1)) by omega, i3]
          exact w1
        · have hrb : f_X8_readBlock (nI b) (nI told) y = some (1, y') := by
            have g1 : (nz_put (nz_put y 2 (1 + b) (nI (T.2 p))) 2 (13 + b) 0).1 0 3 = nI p := by rw [z_put1, if_neg (by omega), z_put1, if_neg (by omega), h3]
            have hin : f_X8_in (nI (T.2 p)).toInt64 97 122 y = some (1, y) := by
              rw [in_eqI, l97, l122, nI_toInt (by omega), if_pos (by omega)]
            unfold f_X8_readBlock
            rw [h3, mLt hT hy (show p < 100 by omega), z_bnd, if_pos hpn, hin, z_bnd, if_neg one0]
            simp only [h3, z_in (show p < 64 by omega) (by omega), z_chk, z_N (show p < 2147483648 by omega), e1p, e3, z_in (show 1 + b < 61 by omega) (by omega), z_N (show 1 + b < 2147483648 by omega), z_in (show 13 + b < 61 by omega) (by omega), z_N (show 13 + b < 2147483648 by omega), hy.2 p hpn, g1, nI_1]
            rw [← hy4]
            exact i4 nz_F _ (by unfold nz_F; omega)
          rw [f_X8_readGraph_73, if_neg (by rw [z_le (by omega) (by omega)]; omega), hrb, z_bnd, if_neg one0]
          simp only [nI_1]
          exact w2
      · refine ⟨nI p, x, y, ?_, ?_, eK.rf x, fZ.rf y, fun q => absurd q (z_m9 (by omega))⟩
        · refine kR_n hT hx hpn (kLetN ht hQ hk (fun q => absurd q ha) (fun hd => ?_)) f1 _
          rcases hM hpn hd with q | ⟨s, q1, q2⟩
          · exact Or.inl (by omega)
          · exact Or.inr ⟨s, by omega, q2⟩
        · refine fail ?_ _
          have hin : f_X8_in (nI (T.2 p)).toInt64 97 122 y = some (0, y) := by
            rw [in_eqI, l97, l122, nI_toInt (by omega), if_neg]
            intro q
            exact ha ⟨by omega, by omega⟩
          unfold f_X8_readBlock
          rw [h3, mLt hT hy (show p < 100 by omega), z_bnd, if_pos hpn, hin, z_bnd, if_pos rfl]
    · have hpe : p = T.1 := by omega
      refine ⟨nI p, x, y, ?_, ?_, eK.rf x, fZ.rf y, fun q => absurd q (z_m9 (by omega))⟩
      · rw [hpe, kR_end hT hx, hk.n, if_neg (by rw [z_le (by omega) (by omega)]; omega), hx.1]
      · refine fail ?_ _
        have hin : f_X8_in (-9 : Int32).toInt64 97 122 y = some (0, y) := by
          rw [in_eqI, l97, l122, if_neg (by decide)]
        unfold f_X8_readBlock
        rw [h3, mLt hT hy (show p < 100 by omega), z_bnd, if_neg hpn, hin, z_bnd, if_pos rfl]
theorem mClr_7 (K : nz_S → Option (Int32 × nz_S)) : ∀ r j fu (y : nz_S), j + r = 61 → r < fu → ∃ y', f_X8_readGraph_7 fu (nI j) y (fun _ z => K z) = K y' ∧ (∀ c, c ≠ 2 → y'.1 c = y.1 c) ∧ y'.2 = y.2
  | 0, j, fu + 1, y, e, _ => by
    have : j = 61 := by omega
    subst this
    exact ⟨y, by rw [f_X8_readGraph_7, if_pos ge61], fun _ _ => rfl, rfl⟩
  | r + 1, j, fu + 1, y, e, hf => by
    obtain ⟨y', w1, w2, w3⟩ := mClr_7 K r (j + 1) fu (nz_put y 2 j 0) (by omega) (by omega)
    refine ⟨y', ?_, fun c hc => by rw [w2 c hc, z_put1, if_neg hc], by rw [w3]; rfl⟩
    rw [f_X8_readGraph_7, if_neg (lt61 (by omega))]
    simp only [z_in (show j < 61 by omega) (by omega), z_chk, z_N (show j < 2147483648 by omega), nI_1]
    exact w1
theorem l8b : (8 : Int64).toInt = 8 := by decide
theorem readG {T : zT} (hT : tV T) {x y : nz_S} (hx : kT x T) (hy : mT y T) : ∃ ans x' y', f_X6_readInto 7 x = some (ans, x') ∧ f_X8_readGraph y = some (ans, y') ∧ eK x x' ∧ fZ y y' ∧ (ans = -9 → ∃ P, zV P ∧ zK x' 7 P ∧ zM y' 2 P) := by
  have h64 := hT.1
  have e0 : ((0 : Int32)).toNatClampNeg = 0 := rfl
  have e1 : ((1 : Int32)).toNatClampNeg = 1 := rfl
  obtain ⟨x1, hx1⟩ : ∃ x1, x1 = nz_put x 7 3 0 := ⟨_, rfl⟩
  have ek1 : eK x x1 := by rw [hx1]; exact eK_put _ _ _ _ (by omega)
  have hxt := ek1.T hx
  obtain ⟨y6, c1, c2, c3⟩ := mClr_7 (fun x6 => nz_bnd (f_X8_letterAt (0 : Int32) x6) fun r8 x9 => if r8 = (71 : Int32) then nz_bnd (f_X8_letterAt (1 : Int32) (nz_put x9 0 3 (1 : Int32))) fun r13 x14 => nz_bnd (f_X8_in ((r13 - (48 : Int32))).toInt64 (1 : Int64) (8 : Int64) x14) fun r17 x18 => if r17 = (0 : Int32) then some ((1 : Int32), x18) else f_X8_readGraph_73 (r13 - (48 : Int32)) nz_F (0 : Int32) (nz_put x18 0 3 (2 : Int32)) fun _ x28 => nz_chk (nz_in (0 : Int32) 61) <| if ((nz_put x28 2 ((0 : Int32)).toNatClampNeg (r13 - (48 : Int32))).1 0 3) = ((nz_put x28 2 ((0 : Int32)).toNatClampNeg (r13 - (48 : Int32))).1 0 2) then some ((-9 : Int32), nz_put x28 2 ((0 : Int32)).toNatClampNeg (r13 - (48 : Int32))) else some (((nz_put x28 2 ((0 : Int32)).toNatClampNeg (r13 - (48 : Int32))).1 0 3), nz_put x28 2 ((0 : Int32)).toNatClampNeg (r13 - (48 : Int32))) else some ((0 : Int32), x9)) 61 0 nz_F (nz_put y 0 3 0) (by omega) (by unfold nz_F; omega)
  rw [nI_0] at c1
  have fz6 : fZ y y6 := (fZ_p3 y 0).tr ⟨fun c _ hc => c2 c hc, fun i _ => by rw [c2 0 (by omega)], c3⟩
  have hy6 := fz6.T hy
  have rf : f_X8_readGraph y = _ := c1
  have L0 := mLt hT hy6 (show 0 < 100 by omega)
  rw [nI_0] at L0
  rw [rf, L0, z_bnd]
  unfold f_X6_readInto
  simp only [← hx1, hxt.1]
  by_cases hn0 : T.1 = 0
  · refine ⟨0, x1, y6, ?_, ?_, ek1, fz6, fun q => absurd q (by decide)⟩
    · rw [if_pos (by rw [hn0]; rfl)]
    · rw [if_neg (show ¬ 0 < T.1 by omega), if_neg (by decide)]
  · have h0 : 0 < T.1 := by omega
    have hx0 : x1.1 2 ((0 : Int32)).toNatClampNeg = nI (T.2 0) := hxt.2 0 h0
    have ht0 := hT.2 0 h0
    rw [if_neg (nI_nz0 h0 (by omega)), show nz_in 0 64 = true from rfl, z_chk, hx0, if_pos h0]
    by_cases hg : nI (T.2 0) = 71
    · rw [if_pos hg, if_pos hg]
      obtain ⟨y12, hy12⟩ : ∃ y12, y12 = nz_put y6 0 3 1 := ⟨_, rfl⟩
      have fz12 : fZ y y12 := by rw [hy12]; exact fz6.tr (fZ_p3 _ _)
      have hyt12 := fz12.T hy
      have L1 := mLt hT hyt12 (show 1 < 100 by omega)
      rw [← hy12, show (1 : Int32) = nI 1 from rfl] at *
      rw [L1, z_bnd]
      by_cases hn1 : T.1 = 1
      · refine ⟨nI 1, x1, y12, ?_, ?_, ek1, fz12, fun q => absurd q (by decide)⟩
        · rw [if_pos (by rw [hn1])]
        · have hin : f_X8_in ((-9 : Int32) - 48).toInt64 1 8 y12 = some (0, y12) := by
            rw [in_eqI, l1, l8b, show ((-9 : Int32) - 48).toInt = -57 by decide, if_neg (by omega)]
          rw [if_neg (show ¬ 1 < T.1 by omega), hin, z_bnd, if_pos rfl]
      · have h1 : 1 < T.1 := by omega
        have hxl : x1.1 2 (nI 1).toNatClampNeg = nI (T.2 1) := hxt.2 1 h1
        have ht1 := hT.2 1 h1
        rw [if_neg (by rw [z_eq (by omega) (by omega)]; exact hn1), show nz_in (nI 1) 64 = true from rfl, z_chk, hxl, if_pos h1]
        by_cases hr : 49 ≤ T.2 1 ∧ T.2 1 ≤ 56
        · obtain ⟨told, htold⟩ : ∃ told, told = T.2 1 - 48 := ⟨_, rfl⟩
          have e48 : nI (T.2 1) - 48 = nI told := by rw [htold]; exact pk_sub (b := 48) (by omega)
          have hin : f_X8_in (nI told).toInt64 1 8 y12 = some (1, y12) := by
            rw [in_eqI, l1, l8b, nI_toInt (by omega), if_pos (by omega)]
          rw [e48, hin, z_bnd, if_neg (show ¬ (1 : Int32) = 0 by decide), if_neg (by rw [z_lt (by omega) (by omega)]; omega), if_pos (by rw [show (8 : Int32) = nI 8 from rfl, z_le (by omega) (by omega)]; omega)]
          obtain ⟨P, hP⟩ : ∃ P : zG, P = (0, fun _ => 0, fun _ => []) := ⟨_, rfl⟩
          have hP0 : P.1 = 0 := by rw [hP]
          have hQ : zQ told P := ⟨by omega, by omega, fun b hb => by omega⟩
          have hk : zK x1 7 P := zK.mk (by rw [hP0, hx1, z_put1, if_pos rfl, z_upd, if_pos rfl]; rfl) (fun b hb => by omega)
          obtain ⟨ans, x', y', w1, w2, w3, w4, w5⟩ := rdB hT (told := told) (by omega) (by omega) told 0 2 nz_F nz_F x1 (nz_put y12 0 3 2) P (by omega) (by unfold nz_F; omega) (by unfold nz_F; omega) hP0 (by omega) hQ hxt ((fZ_p3 y12 2).T hyt12) hk (fun b hb => by omega) (by rw [z_put1, if_pos rfl, z_upd, if_pos rfl]; rfl) (fun _ _ => Or.inl rfl)
          rw [nI_0] at w2
          exact ⟨ans, x', y', w1, w2, ek1.tr w3, (fz12.tr (fZ_p3 _ _)).tr w4, w5⟩
        · refine ⟨nI 1, x1, y12, ?_, ?_, ek1, fz12, fun q => absurd q (by decide)⟩
          · by_cases q1 : T.2 1 < 48
            · have hneg := pk_sneg (a := T.2 1) (b := 48) (by omega) q1
              have e : nI (T.2 1) - nI 48 = nI (T.2 1) - 48 := rfl
              rw [e, fa_lt, i0] at hneg
              rw [if_pos (by rw [fa_lt, nI_toInt (by omega)]; omega)]
            · have e48 : nI (T.2 1) - 48 = nI (T.2 1 - 48) := pk_sub (b := 48) (by omega)
              rw [e48]
              by_cases q2 : T.2 1 - 48 < 1
              · rw [if_pos ((z_lt (by omega) (by omega)).mpr q2)]
              · rw [if_neg (by rw [z_lt (by omega) (by omega)]; exact q2), if_neg (by rw [show (8 : Int32) = nI 8 from rfl, z_le (by omega) (by omega)]; omega)]
          · have hin : f_X8_in (nI (T.2 1) - 48).toInt64 1 8 y12 = some (0, y12) := by
              by_cases q1 : T.2 1 < 48
              · have hneg := pk_sneg (a := T.2 1) (b := 48) (by omega) q1
                have e : nI (T.2 1) - nI 48 = nI (T.2 1) - 48 := rfl
                rw [e, fa_lt, i0] at hneg
                rw [in_eqI, l1, l8b, if_neg (by omega)]
              · have e48 : nI (T.2 1) - 48 = nI (T.2 1 - 48) := pk_sub (b := 48) (by omega)
                rw [e48, in_eqI, l1, l8b, nI_toInt (by omega), if_neg (by omega)]
            rw [hin, z_bnd, if_pos rfl]
    · refine ⟨0, x1, y6, ?_, ?_, ek1, fz6, fun q => absurd q (by decide)⟩
      · rw [if_neg hg]
      · rw [if_neg hg]
theorem sim_fault (a b : nz_S) (h : zR a b) : nz_both zR (f_X7_fault a) (f_X8_fault b) := by
  have em : eM b (nz_put b 0 0 0) := eM_put0 _ _ _ (by omega)
  have h0 := h.eq (eK.rf a) em
  obtain ⟨T, hT, hx, hy⟩ := rText_T h0.1
  obtain ⟨ans, x', y', w1, w2, w3, w4, w5⟩ := readG hT hx hy
  refine ⟨ans, x', y', ?_, ?_, h0.eq w3 w4.eM⟩
  · rw [f_X7_fault, w1, z_bnd]
  · unfold f_X8_fault
    simp only [w2, z_bnd]
theorem mGr_19 (y : nz_S) (K : nz_S → Option (Int32 × nz_S)) : ∀ m j fu, j + m = 61 → m < fu → f_X8_graph_19 fu (nI j) (zcp y 2 0 3 0 j) (fun _ z => K z) = K (zcp y 2 0 3 0 61)
  | 0, j, fu + 1, h, _ => by
    have : j = 61 := by omega
    subst this
    rw [f_X8_graph_19, if_pos ge61]
  | m + 1, j, fu + 1, h, hf => by
    rw [f_X8_graph_19, if_neg (lt61 (by omega))]
    have e := zcp_step y 2 0 3 0 j
    rw [Nat.zero_add] at e
    simp only [z_in (show j < 61 by omega) (by omega), z_chk, z_N (show j < 2147483648 by omega), zcp_s y (show 2 ≠ 3 by omega), e, nI_1]
    exact mGr_19 y K m (j + 1) fu (by omega) (by omega)
theorem kFrg (x : nz_S) : f_X4_forget x = some ((), nz_put (nz_put x 32 0 0) 32 1 0) := by
  have L : ∀ fu (K : Int32 → nz_S → Option (Unit × nz_S)), f_X4_forget_2 (fu + 3) 0 x K = K (0 + 1 + 1) (nz_put (nz_put x 32 0 0) 32 1 0) := by
    intro fu K
    rw [f_X4_forget_2, if_neg (by decide), show nz_in 0 2 = true from rfl, z_chk]
    show f_X4_forget_2 (fu + 2) (0 + 1) (nz_put x 32 0 0) K = _
    rw [f_X4_forget_2, if_neg (by decide), show nz_in (0 + 1) 2 = true from rfl, z_chk]
    show f_X4_forget_2 (fu + 1) (0 + 1 + 1) (nz_put (nz_put x 32 0 0) 32 1 0) K = _
    rw [f_X4_forget_2, if_pos (by decide)]
  exact L 997 (fun _ x5 => some ((), x5))
theorem sim_graph (a b : nz_S) (h : zR a b) : nz_both zR (f_X7_graph a) (f_X8_graph b) := by
  have em : eM b (nz_put b 0 0 0) := eM_put0 _ _ _ (by omega)
  have h0 := h.eq (eK.rf a) em
  obtain ⟨T, hT, hx, hy⟩ := rText_T h0.1
  obtain ⟨ans, a1, b1, w1, w2, w3, w4, w5⟩ := readG hT hx hy
  have hz := h0.eq w3 w4.eM
  by_cases h9 : ans = -9
  · subst h9
    obtain ⟨P, hV, hk, hm⟩ := w5 rfl
    obtain ⟨a2, t1, t2, t3, t4⟩ := kCopyG (g := 3) (g2 := 7) (by omega) hV hk
    obtain ⟨a3, ha3⟩ : ∃ a3, a3 = nz_put (nz_put (nz_put (nz_put a2 20 1 0) 20 2 0) 32 0 0) 32 1 0 := ⟨_, rfl⟩
    have o3 : ∀ c, c ≠ 20 → c ≠ 32 → a3.1 c = a2.1 c := fun c h1 h2 => by
      rw [ha3, z_put1, if_neg h2, z_put1, if_neg h2, z_put1, if_neg h1, z_put1, if_neg h1]
    have hk3 : zK a3 3 P := zK_eq t2 (fun c hc => o3 c (by omega) (by omega))
    obtain ⟨b2, hb2⟩ : ∃ b2, b2 = zcp b1 2 0 3 0 61 := ⟨_, rfl⟩
    obtain ⟨b3, hb3⟩ : ∃ b3, b3 = nz_put (nz_put (nz_put b2 0 8 0) 7 0 0) 7 1 0 := ⟨_, rfl⟩
    have p3 : ∀ c, c ≠ 0 → c ≠ 7 → c ≠ 3 → b3.1 c = b1.1 c := fun c h1 h2 h4 => by
      rw [hb3, z_put1, if_neg h2, z_put1, if_neg h2, z_put1, if_neg h1, hb2, zcp_o _ h4]
    have p0 : ∀ i, i ≠ 8 → b3.1 0 i = b1.1 0 i := fun i hi => by
      rw [hb3, z_put1, if_neg (by omega), z_put1, if_neg (by omega), z_put1, if_pos rfl, z_upd, if_neg hi, hb2, zcp_o _ (by omega)]
    have hm3 : zM b3 3 P := by
      refine zMf_cp hV hm (fun k hk => ?_)
      rw [hb3, z_put1, if_neg (by omega), z_put1, if_neg (by omega), z_put1, if_neg (by omega), hb2]
      exact zcp_in _ (o' := 61 * 0) (o := 61 * 0) hk
    refine ⟨nI P.1, a3, b3, ?_, ?_, ?_⟩
    · rw [f_X7_graph, w1, z_bnd, if_pos rfl, t1, z_bnd]
      unfold f_X1_forget
      simp only [z_bnd, kFrg]
      rw [← ha3, hk3.n]
    · unfold f_X8_graph
      simp only [w2, z_bnd, if_true]
      have := mGr_19 b1 (fun x11 => nz_chk (nz_in (0 : Int32) 2) <| nz_chk (nz_in (1 : Int32) 2) <| nz_chk (nz_in (0 : Int32) 61) <| some (((nz_put (nz_put (nz_put x11 0 8 (0 : Int32)) 7 ((0 : Int32)).toNatClampNeg (0 : Int32)) 7 ((1 : Int32)).toNatClampNeg (0 : Int32)).1 3 ((0 : Int32)).toNatClampNeg), nz_put (nz_put (nz_put x11 0 8 (0 : Int32)) 7 ((0 : Int32)).toNatClampNeg (0 : Int32)) 7 ((1 : Int32)).toNatClampNeg (0 : Int32))) 61 0 nz_F (by omega) (by unfold nz_F; omega)
      rw [zcp_0, nI_0] at this
      refine this.trans ?_
      rw [show nz_in (0 : Int32) 2 = true from rfl, z_chk, show nz_in (1 : Int32) 2 = true from rfl, z_chk, show nz_in (0 : Int32) 61 = true from rfl, z_chk]
      show some ((nz_put (nz_put (nz_put (zcp b1 2 0 3 0 61) 0 8 0) 7 0 0) 7 1 0).1 3 0, nz_put (nz_put (nz_put (zcp b1 2 0 3 0 61) 0 8 0) 7 0 0) 7 1 0) = _
      rw [← hb2, ← hb3, hm3.n]
    · obtain ⟨q1, q2, q3, q4, q5, q6⟩ := hz
      have oa : ∀ c, (c < 3 ∨ 6 < c) → c ≠ 20 → c ≠ 32 → a3.1 c = a1.1 c := fun c hc h1 h2 => by rw [o3 c h1 h2, t3 c (by omega)]
      unfold zR
      rw [oa 1 (by omega) (by omega) (by omega), oa 2 (by omega) (by omega) (by omega), oa 33 (by omega) (by omega) (by omega), oa 34 (by omega) (by omega) (by omega), oa 35 (by omega) (by omega) (by omega), oa 36 (by omega) (by omega) (by omega), p0 2 (by omega), p0 11 (by omega), p3 1 (by omega) (by omega) (by omega), p3 8 (by omega) (by omega) (by omega), p3 9 (by omega) (by omega) (by omega), p3 10 (by omega) (by omega) (by omega)]
      refine ⟨q1, ⟨P, hV, hk3, hm3⟩, ⟨0, 0, fun _ => P, by omega, by omega, ?_, ?_, ?_, fun j hj => by omega⟩, fun k hk2 => Or.inl ⟨?_, ?_⟩, q5, ?_⟩
      · rw [ha3, z_put1, if_neg (by omega), z_put1, if_neg (by omega), z_put1, if_pos rfl, z_upd, if_neg (by omega), z_put1, if_pos rfl, z_upd, if_pos rfl]; rfl
      · rw [ha3, z_put1, if_neg (by omega), z_put1, if_neg (by omega), z_put1, if_pos rfl, z_upd, if_pos rfl]; rfl
      · rw [hb3, z_put1, if_neg (by omega), z_put1, if_neg (by omega), z_put1, if_pos rfl, z_upd, if_pos rfl]; rfl
      · rw [ha3, z_put1, if_pos rfl, z_upd]
        by_cases hq : k = 1
        · rw [if_pos hq]
        · rw [if_neg hq, z_put1, if_pos rfl, z_upd, if_pos (by omega)]
      · rw [hb3, z_put1, if_pos rfl, z_upd]
        by_cases hq : k = 1
        · rw [if_pos hq]
        · rw [if_neg hq, z_put1, if_pos rfl, z_upd, if_pos (by omega)]
      · show a3.2 = b3.2
        rw [ha3, hb3, hb2]
        show a2.2 = b1.2
        rw [t4]; exact q6
  · refine ⟨-3, a1, b1, ?_, ?_, hz⟩
    · rw [f_X7_graph, w1, z_bnd, if_neg h9]
    · unfold f_X8_graph
      simp only [w2, z_bnd, h9, if_false]
