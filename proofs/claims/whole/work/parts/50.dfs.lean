/-! ===== drawers: more things than places ===== -/
theorem fb_holes : ∀ (m n : Nat) (f : Nat → Nat), (∀ i, i < n → f i < m) → (∀ i j, i < j → j < n → f i ≠ f j) → n ≤ m := by
  intro m
  induction m with
  | zero =>
    intro n f h1 _
    rcases Nat.eq_zero_or_pos n with h | h
    · omega
    · exact absurd (h1 0 h) (Nat.not_lt_zero _)
  | succ m ih =>
    intro n f h1 h2
    by_cases hx : ∃ i, i < n ∧ f i = m
    · obtain ⟨a, ha, hfa⟩ := hx
      have hg := ih (n - 1) (fun i => if i < a then f i else f (i + 1)) (by
        intro i hi
        by_cases q : i < a
        · simp only [if_pos q]
          have b1 := h1 i (by omega)
          have b2 := h2 i a q ha
          omega
        · simp only [if_neg q]
          have b1 := h1 (i + 1) (by omega)
          have b2 := h2 a (i + 1) (by omega) (by omega)
          omega) (by
        intro i j hij hj
        by_cases q : i < a
        · by_cases r : j < a
          · simp only [if_pos q, if_pos r]
            exact h2 i j hij (by omega)
          · simp only [if_pos q, if_neg r]
            exact h2 i (j + 1) (by omega) (by omega)
        · have r : ¬ j < a := by omega
          simp only [if_neg q, if_neg r]
          exact h2 (i + 1) (j + 1) (by omega) (by omega))
      omega
    · have hg := ih n f (fun i hi => by
        have b1 := h1 i hi
        have b2 : f i ≠ m := fun e => hx ⟨i, hi, e⟩
        omega) h2
      omega
/-- two of them in one place -/
theorem fb_twice {m n : Nat} {f : Nat → Nat} (h : ∀ i, i < n → f i < m) (hm : m < n) : ∃ i j, i < j ∧ j < n ∧ f i = f j := by
  refine Classical.byContradiction fun hx => ?_
  have := fb_holes m n f h (fun i j hij hj e => hx ⟨i, j, hij, hj, e⟩)
  omega
/-- as many as places, none twice: each place is taken -/
theorem fb_onto {n : Nat} {f : Nat → Nat} (h : ∀ i, i < n → f i < n) (h2 : ∀ i j, i < j → j < n → f i ≠ f j) {y : Nat} (hy : y < n) : ∃ i, i < n ∧ f i = y := by
  refine Classical.byContradiction fun hx => ?_
  have hne : ∀ i, i < n → f i ≠ y := fun i hi e => hx ⟨i, hi, e⟩
  have := fb_holes (n - 1) n (fun i => if f i < y then f i else f i - 1) (by
    intro i hi
    have b1 := h i hi
    have b2 := hne i hi
    by_cases q : f i < y
    · simp only [if_pos q]; omega
    · simp only [if_neg q]; omega) (by
    intro i j hij hj
    have b1 := hne i (by omega)
    have b2 := hne j hj
    have b3 := h2 i j hij hj
    by_cases q : f i < y
    · by_cases r : f j < y
      · simp only [if_pos q, if_pos r]; exact b3
      · simp only [if_pos q, if_neg r]; omega
    · by_cases r : f j < y
      · simp only [if_neg q, if_pos r]; omega
      · simp only [if_neg q, if_neg r]; omega)
  omega
/-! ===== THE WALK, as numbers: how many came, ORDER, the last below, who came as the k-th ===== -/
abbrev zD : Type := Nat × (Nat → Option Nat) × (Nat → Option Nat) × (Nat → Nat)
def up {α : Type} (f : Nat → α) (k : Nat) (v : α) : Nat → α := fun j => if j = k then v else f j
theorem up_s {α : Type} (f : Nat → α) (k : Nat) (v : α) : up f k v k = v := by simp [up]
theorem up_n {α : Type} (f : Nat → α) {k j : Nat} (v : α) (h : j ≠ k) : up f k v j = f j := by simp [up, h]
def dIn (b : Nat) (D : zD) : zD := (D.1 + 1, up D.2.1 b (some D.1), D.2.2.1, up D.2.2.2 D.1 b)
def dOut (b : Nat) (D : zD) : zD := (D.1, D.2.1, up D.2.2.1 b (some (D.1 - 1)), D.2.2.2)
def vis (G : zG) : Nat → Nat → zD → zD
  | 0, _, D => D
  | d + 1, b, D => dOut b ((G.2.2 b).foldl (fun D t => if (D.2.1 t).isNone then vis G d t D else D) (dIn b D))
def stp (G : zG) (d : Nat) (D : zD) (t : Nat) : zD := if (D.2.1 t).isNone then vis G d t D else D
theorem vis_s (G : zG) (d b : Nat) (D : zD) : vis G (d + 1) b D = dOut b ((G.2.2 b).foldl (stp G d) (dIn b D)) := by
  rw [vis]; rfl
def zI (G : zG) (D : zD) : Prop := (∀ c k, D.2.1 c = some k → c < G.1 ∧ k < D.1 ∧ D.2.2.2 k = c) ∧ (∀ k, k < D.1 → D.2.1 (D.2.2.2 k) = some k)
theorem zI.at_lt {G : zG} {D : zD} (h : zI G D) {k : Nat} (hk : k < D.1) : D.2.2.2 k < G.1 := (h.1 _ k (h.2 k hk)).1
theorem zI.lt {G : zG} {D : zD} (h : zI G D) {t : Nat} (ht : t < G.1) (hn : D.2.1 t = none) : D.1 < G.1 := by
  have := fb_holes G.1 (D.1 + 1) (fun i => if i < D.1 then D.2.2.2 i else t) (fun i hi => by
    by_cases q : i < D.1
    · simp only [if_pos q]; exact h.at_lt q
    · simp only [if_neg q]; exact ht) (fun i j hij hj => by
    by_cases q : j < D.1
    · simp only [if_pos q, if_pos (show i < D.1 by omega)]
      intro e
      have h1 := h.2 i (by omega)
      have h2 := h.2 j q
      rw [e] at h1
      have := h1.symm.trans h2
      have := Option.some.inj this
      omega
    · simp only [if_neg q, if_pos (show i < D.1 by omega)]
      intro e
      have h1 := h.2 i (by omega)
      rw [e, hn] at h1
      cases h1)
  omega
theorem zI.le {G : zG} {D : zD} (h : zI G D) : D.1 ≤ G.1 :=
  fb_holes G.1 D.1 D.2.2.2 (fun i hi => h.at_lt hi) (fun i j hij hj e => by
    have h1 := h.2 i (by omega)
    have h2 := h.2 j hj
    rw [e] at h1
    have := Option.some.inj (h1.symm.trans h2)
    omega)
def clo (G : zG) (C : Nat → Prop) : Prop := ∀ c, C c → ∀ t, t ∈ G.2.2 c → C t
/-- D' goes on from D: what came newly is done, and came from the set S -/
def vP (G : zG) (S : Nat → Prop) (D D' : zD) : Prop := zI G D' ∧ D.1 ≤ D'.1 ∧ (∀ c k, D.2.1 c = some k → D'.2.1 c = some k ∧ D'.2.2.1 c = D.2.2.1 c) ∧ (∀ c k, D.2.1 c = none → D'.2.1 c = some k → D.1 ≤ k ∧ (∃ z, D'.2.2.1 c = some z ∧ k ≤ z ∧ z < D'.1) ∧ (∀ t, t ∈ G.2.2 c → (D'.2.1 t).isSome)) ∧ (∀ c, D'.2.1 c = none → D'.2.2.1 c = D.2.2.1 c) ∧ (∀ C, clo G C → (∀ s, S s → C s) → ∀ c, D.2.1 c = none → (D'.2.1 c).isSome → C c)
theorem vP.rf {G : zG} {S : Nat → Prop} {D : zD} (h : zI G D) : vP G S D D := by
  unfold vP
  refine ⟨h, Nat.le_refl _, ?_, ?_, ?_, ?_⟩
  · intro c k e
    exact ⟨e, rfl⟩
  · intro c k e e2
    rw [e] at e2
    cases e2
  · intro c _
    rfl
  · intro C _ _ c e e2
    rw [e] at e2
    cases e2
theorem stp_n {G : zG} {d : Nat} {D : zD} {t : Nat} (h : D.2.1 t = none) : stp G d D t = vis G d t D := by unfold stp; rw [h]; rfl
theorem stp_y {G : zG} {d : Nat} {D : zD} {t k : Nat} (h : D.2.1 t = some k) : stp G d D t = D := by unfold stp; rw [h]; rfl
theorem vP.tr {G : zG} {S : Nat → Prop} {D D' D'' : zD} (h : vP G S D D') (h2 : vP G S D' D'') : vP G S D D'' := by
  obtain ⟨a1, a2, a3, a4, a5, a6⟩ := h
  obtain ⟨b1, b2, b3, b4, b5, b6⟩ := h2
  refine ⟨b1, Nat.le_trans a2 b2, fun c k e => ?_, fun c k e e' => ?_, fun c e => ?_, fun C hC hS c e e' => ?_⟩
  · obtain ⟨h1, h2⟩ := a3 c k e
    obtain ⟨h3, h4⟩ := b3 c k h1
    exact ⟨h3, h4.trans h2⟩
  · cases hm : D'.2.1 c with
    | none =>
      obtain ⟨h1, h2, h3⟩ := b4 c k hm e'
      exact ⟨by omega, h2, h3⟩
    | some k' =>
      obtain ⟨h1, h2⟩ := b3 c _ hm
      rw [h1] at e'
      have ek := Option.some.inj e'
      rw [ek] at hm
      obtain ⟨h3, ⟨z, h4, h5, h6⟩, h7⟩ := a4 c _ e hm
      refine ⟨h3, ⟨z, by rw [h2]; exact h4, h5, by omega⟩, fun t ht => ?_⟩
      have := h7 t ht
      obtain ⟨q, hq⟩ := Option.isSome_iff_exists.mp this
      rw [(b3 t q hq).1]; rfl
  · cases hm : D'.2.1 c with
    | none => rw [b5 c e, a5 c hm]
    | some k => rw [(b3 c k hm).1] at e; cases e
  · cases hm : D'.2.1 c with
    | none => exact b6 C hC hS c hm e'
    | some k => exact a6 C hC hS c e (by rw [hm]; rfl)
theorem vP.mono {G : zG} {S S' : Nat → Prop} {D D' : zD} (h : vP G S D D') (hS : ∀ s, S s → S' s) : vP G S' D D' := ⟨h.1, h.2.1, h.2.2.1, h.2.2.2.1, h.2.2.2.2.1, fun C hC h2 => h.2.2.2.2.2 C hC (fun s hs => h2 s (hS s hs))⟩
theorem vis_P {G : zG} (hV : zV G) : ∀ (d b : Nat) (D : zD), zI G D → b < G.1 → D.2.1 b = none → G.1 - D.1 ≤ d → vP G (fun s => s = b) D (vis G d b D) ∧ (vis G d b D).2.1 b = some D.1 ∧ (vis G d b D).2.2.1 b = some ((vis G d b D).1 - 1) ∧ D.1 < (vis G d b D).1
  | 0, b, D, hI, hb, hn, hd => absurd (hI.lt hb hn) (by omega)
  | d + 1, b, D, hI, hb, hn, hd => by
    have hlt := hI.lt hb hn
    -- entered
    have hI1 : zI G (dIn b D) := by
      refine ⟨fun c k e => ?_, fun k hk => ?_⟩
      · by_cases hc : c = b
        · subst hc
          have e : up D.2.1 c (some D.1) c = some k := e
          rw [up_s] at e
          have ek : D.1 = k := Option.some.inj e
          refine ⟨hb, by show k < D.1 + 1; omega, ?_⟩
          show up D.2.2.2 D.1 c k = c
          rw [← ek, up_s]
        · have e : up D.2.1 b (some D.1) c = some k := e
          rw [up_n _ _ hc] at e
          obtain ⟨h1, h2, h3⟩ := hI.1 c k e
          refine ⟨h1, by show k < D.1 + 1; omega, ?_⟩
          show up D.2.2.2 D.1 b k = c
          rw [up_n _ _ (by omega)]; exact h3
      · have hk : k < D.1 + 1 := hk
        show up D.2.1 b (some D.1) (up D.2.2.2 D.1 b k) = some k
        by_cases hk2 : k = D.1
        · subst hk2
          rw [up_s, up_s]
        · have h1 := hI.2 k (by omega)
          rw [up_n _ _ hk2, up_n _ _ (by intro e; rw [e, hn] at h1; cases h1)]
          exact h1
    -- the arcs
    have hfold : ∀ (L : List Nat) (E : zD), (∀ t, t ∈ L → t < G.1) → zI G E → G.1 - E.1 ≤ d → vP G (fun s => s ∈ L) E (L.foldl (stp G d) E) ∧ ∀ t, t ∈ L → ((L.foldl (stp G d) E).2.1 t).isSome := by
      intro L
      induction L with
      | nil => intro E _ hE _; exact ⟨vP.rf hE, fun t ht => by cases ht⟩
      | cons t L ih =>
        intro E hL hE hd2
        rw [List.foldl_cons]
        have hs : vP G (fun s => s = t) E (stp G d E t) ∧ ((stp G d E t).2.1 t).isSome := by
          cases ht : E.2.1 t with
          | none =>
            rw [stp_n ht]
            obtain ⟨q1, q2, -, -⟩ := vis_P hV d t E hE (hL t List.mem_cons_self) ht hd2
            exact ⟨q1, by rw [q2]; rfl⟩
          | some k =>
            rw [stp_y ht]
            exact ⟨vP.rf hE, by rw [ht]; rfl⟩
        obtain ⟨hs1, hs2⟩ := hs
        obtain ⟨i1, i2⟩ := ih (stp G d E t) (fun s hs => hL s (List.mem_cons_of_mem _ hs)) hs1.1 (by have := hs1.2.1; omega)
        refine ⟨(hs1.mono (fun s hs => by rw [hs]; exact List.mem_cons_self)).tr (i1.mono (fun s hs => List.mem_cons_of_mem _ hs)), fun s hs => ?_⟩
        rcases List.mem_cons.mp hs with rfl | hs
        · obtain ⟨q, hq⟩ := Option.isSome_iff_exists.mp hs2
          rw [(i1.2.2.1 s q hq).1]; rfl
        · exact i2 s hs
    obtain ⟨f1, f2⟩ := hfold (G.2.2 b) (dIn b D) (fun t ht => (hV.2 b hb).2 t ht) hI1 (by show G.1 - (D.1 + 1) ≤ d; omega)
    rw [vis_s]
    obtain ⟨E, hE⟩ : ∃ E, E = (G.2.2 b).foldl (stp G d) (dIn b D) := ⟨_, rfl⟩
    rw [← hE] at f1 f2 ⊢
    obtain ⟨g1, g2, g3, g4, g5, g6⟩ := f1
    have g2 : D.1 + 1 ≤ E.1 := g2
    have ob : (dIn b D).2.1 b = some D.1 := by show up D.2.1 b (some D.1) b = _; rw [up_s]
    have obE := (g3 b D.1 ob).1
    have oo : ∀ c, c ≠ b → (dIn b D).2.1 c = D.2.1 c := fun c hc => by show up D.2.1 b (some D.1) c = _; rw [up_n _ _ hc]
    have lo : ∀ c, c ≠ b → (dOut b E).2.2.1 c = E.2.2.1 c := fun c hc => by show up E.2.2.1 b _ c = _; rw [up_n _ _ hc]
    have lb : (dOut b E).2.2.1 b = some (E.1 - 1) := by show up E.2.2.1 b _ b = _; rw [up_s]
    refine ⟨⟨g1, by show D.1 ≤ E.1; omega, fun c k e => ?_, fun c k e e' => ?_, fun c e => ?_, fun C hC hS c e e' => ?_⟩, obE, lb, by show D.1 < E.1; omega⟩
    · have hcb : c ≠ b := fun q => by rw [q, hn] at e; cases e
      obtain ⟨h1, h2⟩ := g3 c k (by rw [oo c hcb]; exact e)
      exact ⟨h1, by rw [lo c hcb]; exact h2⟩
    · by_cases hcb : c = b
      · subst hcb
        have e' : E.2.1 c = some k := e'
        rw [obE] at e'
        have ek : D.1 = k := Option.some.inj e'
        exact ⟨by omega, ⟨E.1 - 1, lb, by omega, by show E.1 - 1 < E.1; omega⟩, f2⟩
      · obtain ⟨h1, ⟨z, h2, h3, h4⟩, h5⟩ := g4 c k (by rw [oo c hcb]; exact e) e'
        have h1 : D.1 + 1 ≤ k := h1
        exact ⟨by omega, ⟨z, by rw [lo c hcb]; exact h2, h3, h4⟩, h5⟩
    · have e : E.2.1 c = none := e
      have hcb : c ≠ b := fun q => by rw [q, obE] at e; cases e
      rw [lo c hcb]; exact g5 c e
    · by_cases hcb : c = b
      · rw [hcb]; exact hS b rfl
      · exact g6 C hC (fun s hs => hC b (hS b rfl) s hs) c (by rw [oo c hcb]; exact e) e'
