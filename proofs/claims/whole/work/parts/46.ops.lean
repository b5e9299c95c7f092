theorem l_ext {l m : List Nat} (h : l.length = m.length) (h2 : ∀ i, i < l.length → l.getD i 0 = m.getD i 0) : l = m := by
  apply List.ext_getElem h
  intro i h3 h4
  have := h2 i h3
  rw [List.getD_eq_getElem?_getD, List.getD_eq_getElem?_getD, List.getElem?_eq_getElem h3, List.getElem?_eq_getElem h4] at this
  exact this
def gSet (G : zG) (b : Nat) (L : List Nat) : zG := (G.1, G.2.1, fun c => if c = b then L else G.2.2 c)
theorem gSet_V {G : zG} {b : Nat} {L : List Nat} (hV : zV G) (h1 : L.length ≤ 3) (h2 : ∀ t, t ∈ L → t < G.1) : zV (gSet G b L) := by
  refine ⟨hV.1, fun c hc => ?_⟩
  show (if c = b then L else G.2.2 c).length ≤ 3 ∧ ∀ s, s ∈ (if c = b then L else G.2.2 c) → s < G.1
  by_cases h : c = b
  · rw [if_pos h]; exact ⟨h1, h2⟩
  · rw [if_neg h]; exact hV.2 c hc
theorem gSet_b (G : zG) (b : Nat) (L : List Nat) : (gSet G b L).2.2 b = L := by simp [gSet]
theorem gSet_o (G : zG) {b c : Nat} (L : List Nat) (h : c ≠ b) : (gSet G b L).2.2 c = G.2.2 c := by simp [gSet, h]
theorem gSet2 (G : zG) (b : Nat) (L M : List Nat) : gSet (gSet G b L) b M = gSet G b M := by
  unfold gSet
  congr 2
  funext c
  by_cases h : c = b <;> simp [h]
theorem gSet_same (G : zG) (b : Nat) : gSet G b (G.2.2 b) = G := by
  unfold gSet
  obtain ⟨n, a, l⟩ := G
  congr 2
  funext c
  by_cases h : c = b <;> simp [h]
/-- the class: what a block's arcs are, written anew -/
theorem kSetG {x y : nz_S} {g : Nat} {G : zG} (h : zK x g G) {b : Nat} {L : List Nat} (h0 : y.1 g = x.1 g) (h1 : y.1 (g + 1) = x.1 (g + 1)) (h2 : ∀ k, y.1 (g + 2) k = if k = b then nI L.length else x.1 (g + 2) k) (h3 : ∀ i, i < L.length → y.1 (g + 3) (3 * b + i) = nI (L.getD i 0)) (h4 : ∀ k, (k < 3 * b ∨ 3 * b + 3 ≤ k) → y.1 (g + 3) k = x.1 (g + 3) k) (hV : zV G) : zK y g (gSet G b L) := by
  refine zK.mk (by rw [h0]; exact h.n) (fun c hc => ?_)
  have hc : c < G.1 := hc
  have hlc := hV.l hc
  show y.1 (g + 1) c = G.2.1 c ∧ y.1 (g + 2) c = nI (if c = b then L else G.2.2 c).length ∧ ∀ i, i < (if c = b then L else G.2.2 c).length → y.1 (g + 3) (3 * c + i) = nI ((if c = b then L else G.2.2 c).getD i 0)
  refine ⟨by rw [h1]; exact h.a hc, ?_⟩
  by_cases hcb : c = b
  · subst hcb
    simp only [if_true]
    exact ⟨by rw [h2, if_pos rfl], h3⟩
  · simp only [if_neg hcb]
    refine ⟨by rw [h2, if_neg hcb]; exact h.c hc, fun i hi => ?_⟩
    rw [h4 _ (by omega)]; exact h.t hc hi
theorem mSetG {x y : nz_S} {p : Nat} {G : zG} (h : zM x p G) {b : Nat} {L : List Nat} (hb : b < G.1) (h2 : y.1 p (13 + b) = nI L.length) (h3 : ∀ i, i < L.length → y.1 p (25 + (3 * b + i)) = nI (L.getD i 0)) (h4 : ∀ k, k ≠ 13 + b → (k < 25 + 3 * b ∨ 25 + 3 * b + 3 ≤ k) → y.1 p k = x.1 p k) (hV : zV G) : zM y p (gSet G b L) := by
  have hn := hV.1
  refine zM.mk (by rw [h4 0 (by omega) (by omega)]; exact h.n) (fun c hc => ?_)
  have hc : c < G.1 := hc
  have hlc := hV.l hc
  show y.1 p (1 + c) = G.2.1 c ∧ y.1 p (13 + c) = nI (if c = b then L else G.2.2 c).length ∧ ∀ i, i < (if c = b then L else G.2.2 c).length → y.1 p (25 + (3 * c + i)) = nI ((if c = b then L else G.2.2 c).getD i 0)
  refine ⟨by rw [h4 _ (by omega) (by omega)]; exact h.a hc, ?_⟩
  by_cases hcb : c = b
  · subst hcb
    simp only [if_true]
    exact ⟨h2, h3⟩
  · simp only [if_neg hcb]
    refine ⟨by rw [h4 _ (by omega) (by omega)]; exact h.c hc, fun i hi => ?_⟩
    rw [h4 _ (by omega) (by omega)]; exact h.t hc hi
/-- arcs that stay -/
def wl (s : Nat → Bool) (l : List Nat) : Nat → List Nat
  | 0 => []
  | i + 1 => if s i then wl s l i ++ [l.getD i 0] else wl s l i
theorem wl_len (s : Nat → Bool) (l : List Nat) : ∀ i, (wl s l i).length ≤ i
  | 0 => by simp [wl]
  | i + 1 => by
    have := wl_len s l i
    rw [wl]
    split
    · rw [List.length_append]; simp; omega
    · omega
theorem wl_mem {s : Nat → Bool} {l : List Nat} {t : Nat} : ∀ i, i ≤ l.length → t ∈ wl s l i → t ∈ l
  | 0, _, h => by simp [wl] at h
  | i + 1, hi, h => by
    rw [wl] at h
    split at h
    · rcases List.mem_append.mp h with q | q
      · exact wl_mem i (by omega) q
      · rw [List.mem_singleton.mp q, List.getD_eq_getElem?_getD, List.getElem?_eq_getElem (by omega)]
        exact List.getElem_mem _
    · exact wl_mem i (by omega) h
def zkp (x : nz_S) (g b : Nat) (W : List Nat) : nz_S := nz_set (nz_set x (g + 3) (fun k => if 3 * b ≤ k ∧ k < 3 * b + W.length then nI (W.getD (k - 3 * b) 0) else x.1 (g + 3) k)) (g + 2) (upd (x.1 (g + 2)) b (nI W.length))
theorem zkp_c (x : nz_S) (g b : Nat) (W : List Nat) : (zkp x g b W).1 (g + 2) b = nI W.length := by
  unfold zkp
  rw [z_set1, if_pos rfl, z_upd, if_pos rfl]
theorem zkp_t (x : nz_S) (g b : Nat) (W : List Nat) (k : Nat) : (zkp x g b W).1 (g + 3) k = if 3 * b ≤ k ∧ k < 3 * b + W.length then nI (W.getD (k - 3 * b) 0) else x.1 (g + 3) k := by
  unfold zkp
  rw [z_set1, if_neg (by omega), z_set1, if_pos rfl]
theorem zkp_o (x : nz_S) (g b : Nat) (W : List Nat) {c : Nat} (h : c ≠ g + 2 ∧ c ≠ g + 3) : (zkp x g b W).1 c = x.1 c := by
  unfold zkp
  rw [z_set1, if_neg h.1, z_set1, if_neg h.2]
theorem zkp_step (x : nz_S) (g b : Nat) (W : List Nat) (t : Nat) : nz_put (nz_put (zkp x g b W) (g + 3) (3 * b + W.length) (nI t)) (g + 2) b (nI (W.length + 1)) = zkp x g b (W ++ [t]) := by
  refine nz_ext (fun c i => ?_) rfl
  by_cases h2 : c = g + 2
  · subst h2
    rw [z_put1, if_pos rfl, z_upd]
    by_cases hi : i = b
    · subst hi
      rw [if_pos rfl, zkp_c, List.length_append]; rfl
    · rw [if_neg hi, z_put1, if_neg (by omega)]
      unfold zkp
      rw [z_set1, if_pos rfl, z_upd, if_neg hi, z_set1, if_pos rfl, z_upd, if_neg hi]
  · by_cases h3 : c = g + 3
    · subst h3
      rw [z_put1, if_neg (by omega), z_put1, if_pos rfl, z_upd, zkp_t, zkp_t, List.length_append]
      simp only [List.length_cons, List.length_nil, Nat.zero_add]
      by_cases hi : i = 3 * b + W.length
      · subst hi
        rw [if_pos rfl, if_pos (by omega), getD_app (by rw [List.length_append]; simp only [List.length_cons, List.length_nil]; omega), if_pos (by omega)]
      · rw [if_neg hi]
        by_cases hk : 3 * b ≤ i ∧ i < 3 * b + W.length
        · rw [if_pos hk, if_pos (by omega), getD_app (by rw [List.length_append]; simp only [List.length_cons, List.length_nil]; omega), if_neg (by omega)]
        · rw [if_neg hk, if_neg (by omega)]
    · rw [z_put1, if_neg h2, z_put1, if_neg h3, zkp_o _ _ _ _ ⟨h2, h3⟩, zkp_o _ _ _ _ ⟨h2, h3⟩]
theorem kKeep_17 {x : nz_S} {g : Nat} {G : zG} (h : zK x g G) (hV : zV G) {b : Nat} (hb : b < G.1) {m : Int32} {s : Nat → Bool} (hm : ∀ i, i < 3 → ((m >>> (nI i &&& 31)) &&& 1 = 0 ↔ s i = false)) (K : Int32 → nz_S → Option (Unit × nz_S)) : ∀ r i fu, i + r = (G.2.2 b).length → r < fu → f_X0_keepArcs_17 g (nI b) m (nI (G.2.2 b).length) fu (nI i) (zkp x g b (wl s (G.2.2 b) i)) K = K (nI (G.2.2 b).length) (zkp x g b (wl s (G.2.2 b) (G.2.2 b).length))
  | 0, i, fu + 1, e, _ => by
    have hl := hV.l hb
    have : i = (G.2.2 b).length := by omega
    subst this
    rw [f_X0_keepArcs_17, if_pos ((z_le (by omega) (by omega)).mpr (Nat.le_refl _))]
  | r + 1, i, fu + 1, e, hf => by
    have hn := hV.1
    have hl := hV.l hb
    have hw := wl_len s (G.2.2 b) i
    rw [f_X0_keepArcs_17, if_neg (by rw [z_le (by omega) (by omega)]; omega)]
    cases hs : s i with
    | false =>
      rw [if_pos ((hm i (by omega)).mpr hs), nI_1]
      have := kKeep_17 h hV hb hm K r (i + 1) fu (by omega) (by omega)
      rw [wl, hs] at this
      exact this
    | true =>
      rw [if_neg (fun q => by rw [(hm i (by omega)).mp q] at hs; cases hs)]
      have ht : f_X0_target g (nI b) (nI i) (zkp x g b (wl s (G.2.2 b) i)) = some (nI ((G.2.2 b).getD i 0), zkp x g b (wl s (G.2.2 b) i)) := by
        simp only [f_X0_target, idx3 (show b < 12 by omega) (show i < 3 by omega), z_in (show 3 * b + i < 36 by omega) (by omega), z_chk, z_N (show 3 * b + i < 2147483648 by omega), zkp_t]
        rw [if_neg (by omega), h.t hb (by omega)]
      rw [ht, z_bnd, kPut (k := (wl s (G.2.2 b) i).length) (by omega) (by omega) (zkp_c _ _ _ _), z_bnd, zkp_step]
      simp only [nI_1]
      have := kKeep_17 h hV hb hm K r (i + 1) fu (by omega) (by omega)
      rw [wl, hs] at this
      exact this
theorem kKeep {x : nz_S} {g : Nat} {G : zG} (h : zK x g G) (hV : zV G) {b : Nat} (hb : b < G.1) {m : Int32} {s : Nat → Bool} (hm : ∀ i, i < 3 → ((m >>> (nI i &&& 31)) &&& 1 = 0 ↔ s i = false)) : ∃ y, f_X0_keepArcs g (nI b) m x = some ((), y) ∧ zK y g (gSet G b (wl s (G.2.2 b) (G.2.2 b).length)) ∧ (∀ c, c ≠ g + 2 → c ≠ g + 3 → y.1 c = x.1 c) ∧ y.2 = x.2 := by
  have hn := hV.1
  have hl := hV.l hb
  have hw := wl_len s (G.2.2 b) (G.2.2 b).length
  have e0 : nz_put x (g + 2) b 0 = zkp x g b [] := by
    refine nz_ext (fun c i => ?_) rfl
    by_cases h2 : c = g + 2
    · subst h2
      unfold zkp
      rw [z_put1, if_pos rfl, z_set1, if_pos rfl]; rfl
    · by_cases h3 : c = g + 3
      · subst h3
        rw [z_put1, if_neg h2, zkp_t, if_neg (by simp only [List.length_nil]; omega)]
      · rw [z_put1, if_neg h2, zkp_o _ _ _ _ ⟨h2, h3⟩]
  refine ⟨zkp x g b (wl s (G.2.2 b) (G.2.2 b).length), ?_, ?_, fun c h1 h2 => zkp_o _ _ _ _ ⟨h1, h2⟩, rfl⟩
  · have := kKeep_17 h hV hb hm (fun u16 x15 => some ((), x15)) (G.2.2 b).length 0 nz_F (by omega) (by unfold nz_F; omega)
    rw [nI_0] at this
    simp only [f_X0_keepArcs, z_in (show b < 12 by omega) (by omega), z_chk, z_N (show b < 2147483648 by omega), h.c hb, e0]
    exact this
  · refine kSetG h (zkp_o _ _ _ _ ⟨by omega, by omega⟩) (zkp_o _ _ _ _ ⟨by omega, by omega⟩) (fun k => ?_) (fun i hi => ?_) (fun k hk => ?_) hV
    · unfold zkp
      rw [z_set1, if_pos rfl, z_upd]
    · rw [zkp_t, if_pos (by omega), show 3 * b + i - 3 * b = i by omega]
    · rw [zkp_t, if_neg (by omega)]
/-! one gone: those behind it come up -/
theorem wl_ne (l : List Nat) (i : Nat) : ∀ n, n ≤ l.length → (wl (fun k => decide (k ≠ i)) l n).length = (if i < n then n - 1 else n) ∧ ∀ j, j < (wl (fun k => decide (k ≠ i)) l n).length → (wl (fun k => decide (k ≠ i)) l n).getD j 0 = l.getD (if j < i then j else j + 1) 0
  | 0, _ => by simp [wl]
  | n + 1, h => by
    obtain ⟨h1, h2⟩ := wl_ne l i n (by omega)
    rw [wl]
    by_cases hn : n = i
    · subst hn
      rw [if_neg (by simp)]
      rw [if_neg (by omega)] at h1
      exact ⟨by rw [h1, if_pos (by omega)]; omega, h2⟩
    · rw [if_pos (by simpa using hn)]
      refine ⟨?_, fun j hj => ?_⟩
      · rw [List.length_append, h1]
        simp only [List.length_cons, List.length_nil]
        split <;> split <;> omega
      · rw [getD_app hj]
        rw [List.length_append] at hj
        simp only [List.length_cons, List.length_nil] at hj
        by_cases hj2 : j = (wl (fun k => decide (k ≠ i)) l n).length
        · rw [if_pos hj2]
          congr 1
          rw [h1] at hj2
          split at hj2 <;> split <;> omega
        · rw [if_neg hj2]; exact h2 j (by omega)
def zct (x : nz_S) (p o i j : Nat) : nz_S := nz_set x p (fun k => if o + i ≤ k ∧ k < o + j then x.1 p (k + 1) else x.1 p k)
theorem mCut_27 {x : nz_S} {p : Nat} {b i L : Nat} (hb : b < 12) (hL : L ≤ 2) (hc : x.1 p (13 + b) = nI L) (c4 : Int32) (K : Int32 → nz_S → Option (Int32 × nz_S)) : ∀ r j fu, i ≤ j → j + r = L → r < fu → f_X8_goCut_27 p (nI b) (nI (25 + 3 * b)) c4 fu (nI j) (zct x p (25 + 3 * b) i j) K = K (nI L) (zct x p (25 + 3 * b) i L)
  | 0, j, fu + 1, hij, e, _ => by
    have : j = L := by omega
    subst this
    have e3 : (13 : Int32) + nI b = nI (13 + b) := by rw [show (13 : Int32) = nI 13 from rfl, nI_add]
    have q : (zct x p (25 + 3 * b) i j).1 p (13 + b) = nI j := by unfold zct; rw [z_set1, if_pos rfl, if_neg (by omega), hc]
    rw [f_X8_goCut_27]
    simp only [e3, z_in (show 13 + b < 61 by omega) (by omega), z_chk, z_N (show 13 + b < 2147483648 by omega), q]
    rw [if_pos ((z_le (by omega) (by omega)).mpr (Nat.le_refl _))]
  | r + 1, j, fu + 1, hij, e, hf => by
    have e3 : (13 : Int32) + nI b = nI (13 + b) := by rw [show (13 : Int32) = nI 13 from rfl, nI_add]
    have q : (zct x p (25 + 3 * b) i j).1 p (13 + b) = nI L := by unfold zct; rw [z_set1, if_pos rfl, if_neg (by omega), hc]
    have q2 : (zct x p (25 + 3 * b) i j).1 p (25 + 3 * b + j + 1) = x.1 p (25 + 3 * b + j + 1) := by unfold zct; rw [z_set1, if_pos rfl, if_neg (by omega)]
    have q3 : nz_put (zct x p (25 + 3 * b) i j) p (25 + 3 * b + j) (x.1 p (25 + 3 * b + j + 1)) = zct x p (25 + 3 * b) i (j + 1) := by
      refine nz_ext (fun c k => ?_) rfl
      unfold zct
      by_cases hcp : c = p
      · subst hcp
        rw [z_put1, if_pos rfl, z_upd, z_set1, if_pos rfl, z_set1, if_pos rfl]
        by_cases hk : k = 25 + 3 * b + j
        · subst hk; rw [if_pos rfl, if_pos (by omega)]
        · rw [if_neg hk]
          by_cases hk2 : 25 + 3 * b + i ≤ k ∧ k < 25 + 3 * b + j
          · rw [if_pos hk2, if_pos (by omega)]
          · rw [if_neg hk2, if_neg (by omega)]
      · rw [z_put1, if_neg hcp, z_set1, if_neg hcp, z_set1, if_neg hcp]
    rw [f_X8_goCut_27]
    simp only [e3, z_in (show 13 + b < 61 by omega) (by omega), z_chk, z_N (show 13 + b < 2147483648 by omega), q]
    rw [if_neg (by rw [z_le (by omega) (by omega)]; omega)]
    simp only [nI_add, nI_1, z_in (show 25 + 3 * b + j + 1 < 61 by omega) (by omega), z_in (show 25 + 3 * b + j < 61 by omega) (by omega), z_chk, z_N (show 25 + 3 * b + j < 2147483648 by omega), z_N (show 25 + 3 * b + j + 1 < 2147483648 by omega), q2, q3]
    exact mCut_27 hb hL hc c4 K r (j + 1) fu (by omega) (by omega) (by omega)
theorem mCut {x : nz_S} {p : Nat} {G : zG} (h : zM x p G) (hV : zV G) {b i : Nat} (hb : b < G.1) (hi : i < (G.2.2 b).length) : ∃ y, f_X8_goCut p (nI b) (nI i) x = some (nI ((G.2.2 b).getD i 0), y) ∧ zM y p (gSet G b (wl (fun k => decide (k ≠ i)) (G.2.2 b) (G.2.2 b).length)) ∧ (∀ c, c ≠ p → y.1 c = x.1 c) ∧ y.2 = x.2 := by
  have hn := hV.1
  have hl := hV.l hb
  have e3 : (13 : Int32) + nI b = nI (13 + b) := by rw [show (13 : Int32) = nI 13 from rfl, nI_add]
  have e5 : (25 : Int32) + 3 * nI b = nI (25 + 3 * b) := by rw [show (25 : Int32) = nI 25 from rfl, show (3 : Int32) = nI 3 from rfl, pk_mul, nI_add]
  have em : nI (G.2.2 b).length - 1 = nI ((G.2.2 b).length - 1) := pk_sub (b := 1) (by omega)
  have q0 : (nz_put x p (13 + b) (nI ((G.2.2 b).length - 1))).1 p (13 + b) = nI ((G.2.2 b).length - 1) := by rw [z_put1, if_pos rfl, z_upd, if_pos rfl]
  have z0 : zct (nz_put x p (13 + b) (nI ((G.2.2 b).length - 1))) p (25 + 3 * b) i i = nz_put x p (13 + b) (nI ((G.2.2 b).length - 1)) := by
    refine nz_ext (fun c k => ?_) rfl
    unfold zct
    by_cases hcp : c = p
    · subst hcp; rw [z_set1, if_pos rfl, if_neg (by omega)]
    · rw [z_set1, if_neg hcp]
  obtain ⟨w1, w2⟩ := wl_ne (G.2.2 b) i (G.2.2 b).length (Nat.le_refl _)
  rw [if_pos hi] at w1
  refine ⟨zct (nz_put x p (13 + b) (nI ((G.2.2 b).length - 1))) p (25 + 3 * b) i ((G.2.2 b).length - 1), ?_, ?_, ?_, ?_⟩
  · have := mCut_27 (x := nz_put x p (13 + b) (nI ((G.2.2 b).length - 1))) (p := p) (b := b) (i := i) (L := (G.2.2 b).length - 1) (by omega) (by omega) q0 (nI ((G.2.2 b).getD i 0)) (fun u19 x18 => some (nI ((G.2.2 b).getD i 0), x18)) ((G.2.2 b).length - 1 - i) i nz_F (by omega) (by omega) (by unfold nz_F; omega)
    rw [z0] at this
    have t0 : x.1 p (25 + 3 * b + i) = nI ((G.2.2 b).getD i 0) := by rw [Nat.add_assoc]; exact h.t hb hi
    simp only [f_X8_goCut, e3, e5, nI_add, z_in (show 25 + 3 * b + i < 61 by omega) (by omega), z_in (show 13 + b < 61 by omega) (by omega), z_chk, z_N (show 13 + b < 2147483648 by omega), z_N (show 25 + 3 * b + i < 2147483648 by omega), h.c hb, em, t0]
    exact this
  · refine mSetG h hb ?_ (fun j hj => ?_) (fun k hk hk2 => ?_) hV
    · unfold zct
      rw [z_set1, if_pos rfl, if_neg (by omega), q0, w1]
    · rw [w2 j hj]
      rw [w1] at hj
      unfold zct
      rw [z_set1, if_pos rfl]
      by_cases hji : j < i
      · rw [if_neg (by omega), if_pos hji, z_put1, if_pos rfl, z_upd, if_neg (by omega), h.t hb (by omega)]
      · rw [if_pos (by omega), if_neg hji, z_put1, if_pos rfl, z_upd, if_neg (by omega), show 25 + (3 * b + j) + 1 = 25 + (3 * b + (j + 1)) by omega, h.t hb (by omega)]
    · unfold zct
      rw [z_set1, if_pos rfl, if_neg (by omega), z_put1, if_pos rfl, z_upd, if_neg hk]
  · intro c hc
    unfold zct
    rw [z_set1, if_neg hc, z_put1, if_neg hc]
  · rfl
