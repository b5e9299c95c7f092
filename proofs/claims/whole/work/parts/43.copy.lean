/-! ===== rows copied, place by place ===== -/
def zcp (x : nz_S) (s o d o' j : Nat) : nz_S := nz_set x d (fun k => if o' ≤ k ∧ k < o' + j then x.1 s (o + (k - o')) else x.1 d k)
theorem nz_ext {x y : nz_S} (h1 : ∀ c i, x.1 c i = y.1 c i) (h2 : x.2 = y.2) : x = y := by
  obtain ⟨x1, x2⟩ := x
  obtain ⟨y1, y2⟩ := y
  have : x1 = y1 := funext fun c => funext fun i => h1 c i
  subst this
  have h2 : x2 = y2 := h2
  subst h2
  rfl
theorem zcp_0 (x : nz_S) (s o d o' : Nat) : zcp x s o d o' 0 = x := by
  refine nz_ext (fun c i => ?_) rfl
  unfold zcp
  rw [z_set1]
  split
  · rename_i h; subst h; exact if_neg (by omega)
  · rfl
theorem zcp_s (x : nz_S) {s o d o' j : Nat} (h : s ≠ d) : (zcp x s o d o' j).1 s = x.1 s := by unfold zcp; rw [z_set1, if_neg h]
theorem zcp_o (x : nz_S) {s o d o' j c : Nat} (h : c ≠ d) : (zcp x s o d o' j).1 c = x.1 c := by unfold zcp; rw [z_set1, if_neg h]
theorem zcp_2 (x : nz_S) (s o d o' j : Nat) : (zcp x s o d o' j).2 = x.2 := rfl
theorem zcp_step (x : nz_S) (s o d o' j : Nat) : nz_put (zcp x s o d o' j) d (o' + j) (x.1 s (o + j)) = zcp x s o d o' (j + 1) := by
  refine nz_ext (fun c i => ?_) rfl
  unfold zcp
  rw [z_put1]
  by_cases hc : c = d
  · subst hc
    rw [if_pos rfl, z_set1, if_pos rfl, z_set1, if_pos rfl, z_upd]
    by_cases hi : i = o' + j
    · subst hi
      rw [if_pos rfl, if_pos (by omega), show o' + j - o' = j by omega]
    · rw [if_neg hi]
      by_cases h2 : o' ≤ i ∧ i < o' + j
      · rw [if_pos h2, if_pos (by omega)]
      · rw [if_neg h2, if_neg (by omega)]
  · rw [if_neg hc, z_set1, z_set1, if_neg hc, if_neg hc]
theorem zcp_in (x : nz_S) {s o d o' j k : Nat} (h : k < j) : (zcp x s o d o' j).1 d (o' + k) = x.1 s (o + k) := by
  unfold zcp
  rw [z_set1, if_pos rfl, if_pos (by omega), show o' + k - o' = k by omega]
theorem zcp_out (x : nz_S) {s o d o' j k : Nat} (h : k < o' ∨ o' + j ≤ k) : (zcp x s o d o' j).1 d k = x.1 d k := by
  unfold zcp
  rw [z_set1, if_pos rfl, if_neg (by omega)]
theorem zMf_cp {f f' : Nat → Int32} {o o' : Nat} {G : zG} (hV : zV G) (h : zMf f o G) (he : ∀ k, k < 61 → f' (61 * o' + k) = f (61 * o + k)) : zMf f' o' G := by
  have hn := hV.1
  refine ⟨by have := he 0 (by omega); rw [Nat.add_zero, Nat.add_zero] at this; rw [this]; exact h.1, fun b hb => ?_⟩
  have hl := hV.l hb
  obtain ⟨h1, h2, h3⟩ := h.2 b hb
  exact ⟨by rw [he (1 + b) (by omega)]; exact h1, by rw [he (13 + b) (by omega)]; exact h2, fun i hi => by rw [he _ (by omega)]; exact h3 i hi⟩
theorem zKf_cp {s s' : Int32} {fa fc ft fa' fc' ft' : Nat → Int32} {o o' : Nat} {G : zG} (hV : zV G) (h : zKf s fa fc ft o G) (hs : s' = s) (ha : ∀ k, k < 12 → fa' (12 * o' + k) = fa (12 * o + k)) (hc : ∀ k, k < 12 → fc' (12 * o' + k) = fc (12 * o + k)) (ht : ∀ k, k < 36 → ft' (36 * o' + k) = ft (36 * o + k)) : zKf s' fa' fc' ft' o' G := by
  have hn := hV.1
  refine ⟨by rw [hs]; exact h.1, fun b hb => ?_⟩
  have hl := hV.l hb
  obtain ⟨h1, h2, h3⟩ := h.2 b hb
  exact ⟨by rw [ha b (by omega)]; exact h1, by rw [hc b (by omega)]; exact h2, fun i hi => by rw [ht _ (by omega)]; exact h3 i hi⟩
theorem lt61 {j : Nat} (h : j < 61) : ¬ (61 : Int32) ≤ nI j := by
  rw [show (61 : Int32) = nI 61 from rfl, z_le (by omega) (by omega)]; omega
theorem ge61 : (61 : Int32) ≤ nI 61 := by decide
theorem mBegin_2 (x : nz_S) (K : Int32 → nz_S → Option (Unit × nz_S)) : ∀ m j fu, j + m = 61 → m < fu → f_X8_begin_2 fu (nI j) (zcp x 3 0 4 0 j) K = K (nI 61) (zcp x 3 0 4 0 61)
  | 0, j, fu + 1, h, _ => by
    have : j = 61 := by omega
    subst this
    rw [f_X8_begin_2, if_pos ge61]
  | m + 1, j, fu + 1, h, hf => by
    rw [f_X8_begin_2, if_neg (lt61 (by omega))]
    have e := zcp_step x 3 0 4 0 j
    rw [Nat.zero_add] at e
    simp only [z_in (show j < 61 by omega) (by omega), z_chk, z_N (show j < 2147483648 by omega), zcp_s x (show 3 ≠ 4 by omega), e, nI_1]
    exact mBegin_2 x K m (j + 1) fu (by omega) (by omega)
theorem mBegin (x : nz_S) : f_X8_begin x = some ((), zcp x 3 0 4 0 61) := by
  unfold f_X8_begin
  have := mBegin_2 x (fun u7 x6 => some ((), x6)) 61 0 nz_F (by omega) (by decide)
  rw [zcp_0] at this
  exact this
theorem mUndo_27 (x : nz_S) (n : Nat) (hn : n < 14) (hd : x.1 0 8 = nI n) (K : Int32 → nz_S → Option (Int32 × nz_S)) : ∀ m j fu, j + m = 61 → m < fu → f_X8_undo_27 fu (nI j) (zcp x 5 (61 * n) 3 0 j) K = K (nI 61) (zcp x 5 (61 * n) 3 0 61)
  | 0, j, fu + 1, h, _ => by
    have : j = 61 := by omega
    subst this
    rw [f_X8_undo_27, if_pos ge61]
  | m + 1, j, fu + 1, h, hf => by
    rw [f_X8_undo_27, if_neg (lt61 (by omega))]
    have e := zcp_step x 5 (61 * n) 3 0 j
    rw [Nat.zero_add] at e
    have e2 : (61 : Int32) * (zcp x 5 (61 * n) 3 0 j).1 0 8 + nI j = nI (61 * n + j) := by
      rw [zcp_o x (show 0 ≠ 3 by omega), hd, show (61 : Int32) = nI 61 from rfl, pk_mul, nI_add]
    simp only [e2, z_in (show 61 * n + j < 854 by omega) (by omega), z_in (show j < 61 by omega) (by omega), z_chk, z_N (show j < 2147483648 by omega), z_N (show 61 * n + j < 2147483648 by omega), zcp_s x (show 5 ≠ 3 by omega), e, nI_1]
    exact mUndo_27 x n hn hd K m (j + 1) fu (by omega) (by omega)
theorem mNote_51 (x : nz_S) (n : Nat) (hn : n < 14) (hd : x.1 0 8 = nI n) (K : Int32 → nz_S → Option (Unit × nz_S)) : ∀ m j fu, j + m = 61 → m < fu → f_X8_note_51 fu (nI j) (zcp x 3 0 5 (61 * n) j) K = K (nI 61) (zcp x 3 0 5 (61 * n) 61)
  | 0, j, fu + 1, h, _ => by
    have : j = 61 := by omega
    subst this
    rw [f_X8_note_51, if_pos ge61]
  | m + 1, j, fu + 1, h, hf => by
    rw [f_X8_note_51, if_neg (lt61 (by omega))]
    have e := zcp_step x 3 0 5 (61 * n) j
    rw [Nat.zero_add] at e
    have e2 : (61 : Int32) * (zcp x 3 0 5 (61 * n) j).1 0 8 + nI j = nI (61 * n + j) := by
      rw [zcp_o x (show 0 ≠ 5 by omega), hd, show (61 : Int32) = nI 61 from rfl, pk_mul, nI_add]
    simp only [e2, z_in (show 61 * n + j < 854 by omega) (by omega), z_in (show j < 61 by omega) (by omega), z_chk, z_N (show j < 2147483648 by omega), z_N (show 61 * n + j < 2147483648 by omega), zcp_s x (show 3 ≠ 5 by omega), e, nI_1]
    exact mNote_51 x n hn hd K m (j + 1) fu (by omega) (by omega)
def zsh (x : nz_S) (j : Nat) : nz_S := nz_set x 5 (fun k => if k < j then x.1 5 (k + 61) else x.1 5 k)
theorem zsh_0 (x : nz_S) : zsh x 0 = x := by
  refine nz_ext (fun c i => ?_) rfl
  unfold zsh
  rw [z_set1]
  split
  · rename_i h; subst h; exact if_neg (by omega)
  · rfl
theorem mNote_11 (x : nz_S) (K : Int32 → nz_S → Option (Unit × nz_S)) : ∀ m j fu, j + m = 793 → m < fu → f_X8_note_11 fu (nI j) (zsh x j) K = K (nI 793) (zsh x 793)
  | 0, j, fu + 1, h, _ => by
    have : j = 793 := by omega
    subst this
    rw [f_X8_note_11, if_pos (by decide)]
  | m + 1, j, fu + 1, h, hf => by
    rw [f_X8_note_11, if_neg (by rw [show (793 : Int32) = nI 793 from rfl, z_le (by omega) (by omega)]; omega)]
    have e2 : nI j + 61 = nI (j + 61) := by rw [show (61 : Int32) = nI 61 from rfl, nI_add]
    have e3 : (zsh x j).1 5 (j + 61) = x.1 5 (j + 61) := by
      unfold zsh
      rw [z_set1, if_pos rfl, if_neg (by omega)]
    have e : nz_put (zsh x j) 5 j (x.1 5 (j + 61)) = zsh x (j + 1) := by
      refine nz_ext (fun c i => ?_) rfl
      unfold zsh
      rw [z_put1]
      by_cases hc : c = 5
      · subst hc
        rw [if_pos rfl, z_set1, if_pos rfl, z_set1, if_pos rfl, z_upd]
        by_cases hi : i = j
        · subst hi
          rw [if_pos rfl, if_pos (by omega)]
        · rw [if_neg hi]
          by_cases h2 : i < j
          · rw [if_pos h2, if_pos (by omega)]
          · rw [if_neg h2, if_neg (by omega)]
      · rw [if_neg hc, z_set1, z_set1, if_neg hc, if_neg hc]
    simp only [e2, z_in (show j + 61 < 854 by omega) (by omega), z_in (show j < 854 by omega) (by omega), z_chk, z_N (show j < 2147483648 by omega), z_N (show j + 61 < 2147483648 by omega), e3, e, nI_1]
    exact mNote_11 x K m (j + 1) fu (by omega) (by omega)
theorem mKeep_26 (x : nz_S) (n : Nat) (hn : n < 2) (K : Int32 → nz_S → Option (Int32 × nz_S)) : ∀ m j fu, j + m = 61 → m < fu → f_X8_keep_26 (nI n) fu (nI j) (zcp x 3 0 6 (61 * n) j) K = K (nI 61) (zcp x 3 0 6 (61 * n) 61)
  | 0, j, fu + 1, h, _ => by
    have : j = 61 := by omega
    subst this
    rw [f_X8_keep_26, if_pos ge61]
  | m + 1, j, fu + 1, h, hf => by
    rw [f_X8_keep_26, if_neg (lt61 (by omega))]
    have e := zcp_step x 3 0 6 (61 * n) j
    rw [Nat.zero_add] at e
    have e2 : (61 : Int32) * nI n + nI j = nI (61 * n + j) := by
      rw [show (61 : Int32) = nI 61 from rfl, pk_mul, nI_add]
    simp only [e2, z_in (show 61 * n + j < 122 by omega) (by omega), z_in (show j < 61 by omega) (by omega), z_chk, z_N (show j < 2147483648 by omega), z_N (show 61 * n + j < 2147483648 by omega), zcp_s x (show 3 ≠ 6 by omega), e, nI_1]
    exact mKeep_26 x n hn K m (j + 1) fu (by omega) (by omega)
theorem mAgain_31 (x : nz_S) (n : Nat) (hn : n < 2) (K : Int32 → nz_S → Option (Int32 × nz_S)) : ∀ m j fu, j + m = 61 → m < fu → f_X8_again_31 (nI n) fu (nI j) (zcp x 6 (61 * n) 3 0 j) K = K (nI 61) (zcp x 6 (61 * n) 3 0 61)
  | 0, j, fu + 1, h, _ => by
    have : j = 61 := by omega
    subst this
    rw [f_X8_again_31, if_pos ge61]
  | m + 1, j, fu + 1, h, hf => by
    rw [f_X8_again_31, if_neg (lt61 (by omega))]
    have e := zcp_step x 6 (61 * n) 3 0 j
    rw [Nat.zero_add] at e
    have e2 : (61 : Int32) * nI n + nI j = nI (61 * n + j) := by
      rw [show (61 : Int32) = nI 61 from rfl, pk_mul, nI_add]
    simp only [e2, z_in (show 61 * n + j < 122 by omega) (by omega), z_in (show j < 61 by omega) (by omega), z_chk, z_N (show j < 2147483648 by omega), z_N (show 61 * n + j < 2147483648 by omega), zcp_s x (show 6 ≠ 3 by omega), e, nI_1]
    exact mAgain_31 x n hn K m (j + 1) fu (by omega) (by omega)
theorem mGraph_19 (x : nz_S) (K : Int32 → nz_S → Option (Int32 × nz_S)) : ∀ m j fu, j + m = 61 → m < fu → f_X8_graph_19 fu (nI j) (zcp x 2 0 3 0 j) K = K (nI 61) (zcp x 2 0 3 0 61)
  | 0, j, fu + 1, h, _ => by
    have : j = 61 := by omega
    subst this
    rw [f_X8_graph_19, if_pos ge61]
  | m + 1, j, fu + 1, h, hf => by
    rw [f_X8_graph_19, if_neg (lt61 (by omega))]
    have e := zcp_step x 2 0 3 0 j
    rw [Nat.zero_add] at e
    simp only [z_in (show j < 61 by omega) (by omega), z_chk, z_N (show j < 2147483648 by omega), zcp_s x (show 2 ≠ 3 by omega), e, nI_1]
    exact mGraph_19 x K m (j + 1) fu (by omega) (by omega)
/-! ===== how many arcs ===== -/
def nArcs (G : zG) : Nat → Nat
  | 0 => 0
  | n + 1 => nArcs G n + (G.2.2 n).length
theorem nArcs_le {G : zG} (hV : zV G) : ∀ n, n ≤ G.1 → nArcs G n ≤ 3 * n
  | 0, _ => by simp [nArcs]
  | n + 1, h => by
    have := nArcs_le hV n (by omega)
    have := hV.l (show n < G.1 by omega)
    rw [nArcs]; omega
theorem kArcs_4 {x : nz_S} {g : Nat} {G : zG} (h : zK x g G) (hV : zV G) (K : Int32 → Int32 → nz_S → Option (Int32 × nz_S)) : ∀ m j fu, j + m = G.1 → m < fu → f_X0_countArcs_4 g fu (nI (nArcs G j)) (nI j) x K = K (nI (nArcs G G.1)) (nI G.1) x
  | 0, j, fu + 1, e, _ => by
    have : j = G.1 := by omega
    subst this
    rw [f_X0_countArcs_4, h.n, if_pos ((z_le (by have := hV.1; omega) (by have := hV.1; omega)).mpr (Nat.le_refl _))]
  | m + 1, j, fu + 1, e, hf => by
    have hn := hV.1
    have hl := hV.l (show j < G.1 by omega)
    have hA := nArcs_le hV j (by omega)
    rw [f_X0_countArcs_4, h.n, if_neg (by rw [z_le (by omega) (by omega)]; omega)]
    simp only [z_in (show j < 12 by omega) (by omega), z_chk, z_N (show j < 2147483648 by omega), h.c (show j < G.1 by omega), nI_add, nI_1]
    exact kArcs_4 h hV K m (j + 1) fu (by omega) (by omega)
theorem kArcs {x : nz_S} {g : Nat} {G : zG} (h : zK x g G) (hV : zV G) : f_X0_countArcs g x = some (nI (nArcs G G.1), x) := by
  have hn := hV.1
  exact kArcs_4 h hV _ G.1 0 nz_F (by omega) (by unfold nz_F; omega)
theorem mArcs_4 {x : nz_S} {p : Nat} {G : zG} (h : zM x p G) (hV : zV G) (K : Int32 → Int32 → nz_S → Option (Int32 × nz_S)) : ∀ m j fu, j + m = G.1 → m < fu → f_X8_arcs_4 p fu (nI (nArcs G j)) (nI j) x K = K (nI (nArcs G G.1)) (nI G.1) x
  | 0, j, fu + 1, e, _ => by
    have : j = G.1 := by omega
    subst this
    rw [f_X8_arcs_4]
    simp only [show nz_in 0 61 = true from rfl, z_chk, show ((0 : Int32)).toNatClampNeg = 0 from rfl, h.n]
    rw [if_pos ((z_le (by have := hV.1; omega) (by have := hV.1; omega)).mpr (Nat.le_refl _))]
  | m + 1, j, fu + 1, e, hf => by
    have hn := hV.1
    have hl := hV.l (show j < G.1 by omega)
    have hA := nArcs_le hV j (by omega)
    rw [f_X8_arcs_4]
    have e3 : (13 : Int32) + nI j = nI (13 + j) := by rw [show (13 : Int32) = nI 13 from rfl, nI_add]
    simp only [show nz_in 0 61 = true from rfl, z_chk, show ((0 : Int32)).toNatClampNeg = 0 from rfl, h.n]
    rw [if_neg (by rw [z_le (by omega) (by omega)]; omega)]
    simp only [e3, z_in (show 13 + j < 61 by omega) (by omega), z_chk, z_N (show 13 + j < 2147483648 by omega), h.c (show j < G.1 by omega), nI_add, nI_1]
    exact mArcs_4 h hV K m (j + 1) fu (by omega) (by omega)
theorem mArcs {x : nz_S} {p : Nat} {G : zG} (h : zM x p G) (hV : zV G) : f_X8_arcs p x = some (nI (nArcs G G.1), x) := by
  have hn := hV.1
  exact mArcs_4 h hV _ G.1 0 nz_F (by omega) (by unfold nz_F; omega)
