/-! ===== arcs sorted: forward, backward ===== -/
def tg0 (G : zG) (D : zD) (c t : Nat) : Bool := od D c && gGo G c t
def bk0 (G : zG) (D : zD) (c v : Nat) : Bool := od D v && gGo G v c && abv D c v
def en0 (G : zG) (D : zD) (c v : Nat) : Bool := od D v && gGo G v c && !abv D c v
def kA (x : nz_S) (D : zD) (sn : Nat → Nat → Bool) (nb : Nat) : Prop := (∀ c, c < 12 → x.1 15 c = bm (sn c)) ∧ (∀ c, c < 12 → x.1 16 c = bm (fun v => sn v c && abv D c v)) ∧ (∀ c, c < 12 → x.1 17 c = bm (fun v => sn v c && !abv D c v)) ∧ x.1 11 10 = nI nb
def ad1 (b : Nat) (sn : Nat → Nat → Bool) (t : Nat) : Nat → Nat → Bool := fun v u => sn v u || (decide (v = b) && decide (u = t))
def bc1 (D : zD) (b : Nat) (n t : Nat) : Nat := if abv D t b then n + 1 else n
def fT (x y : nz_S) : Prop := (∀ c, c ≠ 11 → c < 15 ∨ 17 < c → y.1 c = x.1 c) ∧ (∀ i, i ≠ 10 → y.1 11 i = x.1 11 i) ∧ y.2 = x.2
theorem fT.rf (x : nz_S) : fT x x := ⟨fun _ _ _ => rfl, fun _ _ => rfl, rfl⟩
theorem fT.tr {x y z : nz_S} (h : fT x y) (h2 : fT y z) : fT x z := ⟨fun c h0 hc => (h2.1 c h0 hc).trans (h.1 c h0 hc), fun i hi => (h2.2.1 i hi).trans (h.2.1 i hi), h2.2.2.trans h.2.2⟩
theorem fT_put (x : nz_S) (c i : Nat) (v : Int32) (h : 15 ≤ c ∧ c ≤ 17) : fT x (nz_put x c i v) := ⟨fun k h0 hk => by rw [z_put1, if_neg (by omega)], fun j hj => by rw [z_put1, if_neg (by omega)], rfl⟩
theorem fT_put0 (x : nz_S) (v : Int32) : fT x (nz_put x 11 10 v) := ⟨fun k h0 hk => by rw [z_put1, if_neg h0], fun j hj => by rw [z_put1, if_pos rfl, z_upd, if_neg hj], rfl⟩
theorem fT.S {x y : nz_S} (h : fT x y) : eS x y := ⟨fun c hc => h.1 c (by omega) (by omega), h.2.2⟩
theorem fT.ks {x y : nz_S} (h : fT x y) {D : zD} (hs : sK x D) : sK y D := by
  unfold sK
  rw [h.2.1 8 (by omega), h.1 12 (by omega) (by omega), h.1 13 (by omega) (by omega), h.1 14 (by omega) (by omega)]
  exact hs
theorem kA_step {x : nz_S} {D : zD} {sn : Nat → Nat → Bool} {nb b t : Nat} (h : kA x D sn nb) (hb : b < 12) (ht : t < 12) : ∃ y, fT x y ∧ kA y D (ad1 b sn t) (bc1 D b nb t) ∧ ∀ (Z Z2 : nz_S → Option (Unit × nz_S)), (if (((nz_put x 15 b ((x.1 15 b) ||| ((1 : Int32) <<< (nI t &&& 31)))).1 14 t) >>> (nI b &&& 31)) &&& (1 : Int32) = (0 : Int32) then Z (nz_put (nz_put x 15 b ((x.1 15 b) ||| ((1 : Int32) <<< (nI t &&& 31)))) 17 t (((nz_put x 15 b ((x.1 15 b) ||| ((1 : Int32) <<< (nI t &&& 31)))).1 17 t) ||| ((1 : Int32) <<< (nI b &&& 31)))) else Z2 (nz_put (nz_put (nz_put x 15 b ((x.1 15 b) ||| ((1 : Int32) <<< (nI t &&& 31)))) 16 t (((nz_put x 15 b ((x.1 15 b) ||| ((1 : Int32) <<< (nI t &&& 31)))).1 16 t) ||| ((1 : Int32) <<< (nI b &&& 31)))) 11 10 (nI (nb + 1)))) = (if abv D t b then Z2 y else Z y) ∨ ¬ x.1 14 t = bm (abv D t) := by
  obtain ⟨h1, h2, h3, h4⟩ := h
  have a15 : ∀ c, c < 12 → (nz_put x 15 b ((x.1 15 b) ||| ((1 : Int32) <<< (nI t &&& 31)))).1 15 c = bm (ad1 b sn t c) := by
    intro c hc
    rw [z_put1, if_pos rfl, z_upd]
    by_cases hcb : c = b
    · rw [if_pos hcb, h1 b hb, bm_one t ht, bm_or, hcb]
      exact bm_ext (fun u _ => by simp [ad1])
    · rw [if_neg hcb, h1 c hc]
      exact bm_ext (fun u _ => by simp [ad1, hcb])
  have n14 : (nz_put x 15 b ((x.1 15 b) ||| ((1 : Int32) <<< (nI t &&& 31)))).1 14 t = x.1 14 t := by rw [z_put1, if_neg (by omega)]
  have n16 : ∀ c, (nz_put x 15 b ((x.1 15 b) ||| ((1 : Int32) <<< (nI t &&& 31)))).1 16 c = x.1 16 c := fun c => by rw [z_put1, if_neg (by omega)]
  have n17 : ∀ c, (nz_put x 15 b ((x.1 15 b) ||| ((1 : Int32) <<< (nI t &&& 31)))).1 17 c = x.1 17 c := fun c => by rw [z_put1, if_neg (by omega)]
  have n11 : (nz_put x 15 b ((x.1 15 b) ||| ((1 : Int32) <<< (nI t &&& 31)))).1 11 10 = x.1 11 10 := by rw [z_put1, if_neg (by omega)]
  have f8 : fT x (nz_put x 15 b ((x.1 15 b) ||| ((1 : Int32) <<< (nI t &&& 31)))) := fT_put _ _ _ _ (by omega)
  obtain ⟨x8, hx8⟩ : ∃ x8, x8 = nz_put x 15 b ((x.1 15 b) ||| ((1 : Int32) <<< (nI t &&& 31))) := ⟨_, rfl⟩
  rw [← hx8] at a15 n14 n16 n17 n11 f8 ⊢
  cases hab : abv D t b with
  | false =>
    refine ⟨nz_put x8 17 t ((x8.1 17 t) ||| ((1 : Int32) <<< (nI b &&& 31))), f8.tr (fT_put _ _ _ _ (by omega)), ⟨fun c hc => ?_, fun c hc => ?_, fun c hc => ?_, ?_⟩, fun Z Z2 => ?_⟩
    · rw [z_put1, if_neg (by omega)]; exact a15 c hc
    · rw [z_put1, if_neg (by omega), n16, h2 c hc]
      refine bm_ext (fun v _ => ?_)
      by_cases hv : v = b
      · by_cases hct : c = t
        · rw [hv, hct, hab]; simp
        · simp [ad1, hct]
      · simp [ad1, hv]
    · rw [z_put1, if_pos rfl, z_upd]
      by_cases hct : c = t
      · rw [if_pos hct, n17, h3 t ht, bm_one b hb, bm_or, hct]
        refine bm_ext (fun v _ => ?_)
        by_cases hv : v = b
        · rw [hv, hab]; simp [ad1]
        · simp [ad1, hv]
      · rw [if_neg hct, n17, h3 c hc]
        refine bm_ext (fun v _ => ?_)
        simp [ad1, hct]
    · rw [z_put1, if_neg (by omega), n11, h4]
      unfold bc1
      rw [hab]; rfl
    · by_cases hq : x.1 14 t = bm (abv D t)
      · left
        rw [n14, hq, if_pos ((bit_bm0 _ hb).mpr hab)]
        rfl
      · exact Or.inr hq
  | true =>
    refine ⟨nz_put (nz_put x8 16 t ((x8.1 16 t) ||| ((1 : Int32) <<< (nI b &&& 31)))) 11 10 (nI (nb + 1)), (f8.tr (fT_put _ _ _ _ (by omega))).tr (fT_put0 _ _), ⟨fun c hc => ?_, fun c hc => ?_, fun c hc => ?_, ?_⟩, fun Z Z2 => ?_⟩
    · rw [z_put1, if_neg (by omega), z_put1, if_neg (by omega)]; exact a15 c hc
    · rw [z_put1, if_neg (by omega), z_put1, if_pos rfl, z_upd]
      by_cases hct : c = t
      · rw [if_pos hct, n16, h2 t ht, bm_one b hb, bm_or, hct]
        refine bm_ext (fun v _ => ?_)
        by_cases hv : v = b
        · rw [hv, hab]; simp [ad1]
        · simp [ad1, hv]
      · rw [if_neg hct, n16, h2 c hc]
        refine bm_ext (fun v _ => ?_)
        simp [ad1, hct]
    · rw [z_put1, if_neg (by omega), z_put1, if_neg (by omega), n17, h3 c hc]
      refine bm_ext (fun v _ => ?_)
      by_cases hv : v = b
      · by_cases hct : c = t
        · rw [hv, hct, hab]; simp
        · simp [ad1, hct]
      · simp [ad1, hv]
    · rw [z_put1, if_pos rfl, z_upd, if_pos rfl]
      unfold bc1
      rw [hab]; rfl
    · by_cases hq : x.1 14 t = bm (abv D t)
      · left
        rw [n14, hq, if_neg (by rw [bit_bm0 _ hb, hab]; decide)]
        rfl
      · exact Or.inr hq
theorem kSort_2 {g : Nat} {G : zG} (hg : g + 3 < 11) (hV : zV G) {D : zD} (hF : zF G D) {b : Nat} (hb : od D b = true) (K : Int32 → nz_S → Option (Unit × nz_S)) : ∀ r i fu (sn : Nat → Nat → Bool) (nb : Nat) (x : nz_S), i + r = (G.2.2 b).length → r < fu → kA x D sn nb → sK x D → zK x g G → ∃ y, f_X5_sortArcs_2 g (nI b) fu (nI i) x K = K (nI (G.2.2 b).length) y ∧ kA y D (((G.2.2 b).drop i).foldl (ad1 b) sn) (((G.2.2 b).drop i).foldl (bc1 D b) nb) ∧ fT x y
  | 0, i, fu + 1, sn, nb, x, e, _, hA, hs, hk => by
    have h12 := hV.1
    have hbn := hF.lt hb
    have hlb := hV.l hbn
    have : i = (G.2.2 b).length := by omega
    subst this
    refine ⟨x, ?_, ?_, fT.rf x⟩
    · rw [f_X5_sortArcs_2]
      simp only [z_in (show b < 12 by omega) (by omega), z_chk, z_N (show b < 2147483648 by omega), hk.c hbn]
      rw [if_pos ((z_le (by omega) (by omega)).mpr (Nat.le_refl _))]
    · rw [List.drop_length]; exact hA
  | r + 1, i, fu + 1, sn, nb, x, e, hf, hA, hs, hk => by
    have h12 := hV.1
    have hbn := hF.lt hb
    have hlb := hV.l hbn
    have hil : i < (G.2.2 b).length := by omega
    have ht := hV.t hbn hil
    have hmem : (G.2.2 b).getD i 0 ∈ G.2.2 b := by
      rw [List.getD_eq_getElem?_getD, List.getElem?_eq_getElem hil]
      exact List.getElem_mem hil
    have hdrop : (G.2.2 b).drop i = (G.2.2 b).getD i 0 :: (G.2.2 b).drop (i + 1) := by
      rw [List.drop_eq_getElem_cons hil, List.getD_eq_getElem?_getD, List.getElem?_eq_getElem hil]
      rfl
    rw [hdrop, List.foldl_cons, List.foldl_cons]
    have htg := kTG hk hV hbn hil
    obtain ⟨t, hte⟩ : ∃ t, t = (G.2.2 b).getD i 0 := ⟨_, rfl⟩
    rw [← hte] at ht htg hmem ⊢
    obtain ⟨y, y1, y2, y3⟩ := kA_step hA (b := b) (t := t) (by omega) (by omega)
    obtain ⟨y', s1, s2, s3⟩ := kSort_2 hg hV hF hb K r (i + 1) fu (ad1 b sn t) (bc1 D b nb t) y (by omega) (by omega) y2 (y1.ks hs) (y1.S.K hg hk)
    refine ⟨y', ?_, s2, y1.tr s3⟩
    have h10 : (nz_put (nz_put x 15 b ((x.1 15 b) ||| ((1 : Int32) <<< (nI t &&& 31)))) 16 t (((nz_put x 15 b ((x.1 15 b) ||| ((1 : Int32) <<< (nI t &&& 31)))).1 16 t) ||| ((1 : Int32) <<< (nI b &&& 31)))).1 11 10 = nI nb := by
      rw [z_put1, if_neg (by omega), z_put1, if_neg (by omega)]; exact hA.2.2.2
    rw [f_X5_sortArcs_2]
    simp only [z_in (show b < 12 by omega) (by omega), z_chk, z_N (show b < 2147483648 by omega), hk.c hbn]
    rw [if_neg (by rw [z_le (by omega) (by omega)]; omega), htg, z_bnd]
    simp only [z_in (show t < 12 by omega) (by omega), z_chk, z_N (show t < 2147483648 by omega), h10, nI_1]
    rcases y3 (fun z => f_X5_sortArcs_2 g (nI b) fu (nI (i + 1)) z K) (fun z => f_X5_sortArcs_2 g (nI b) fu (nI (i + 1)) z K) with q | q
    · refine q.trans ?_
      split <;> exact s1
    · exact absurd (hs.2.2.2 t (by omega) (hF.ls (hF.cl b t hb hmem))) q
def srt (G : zG) (D : zD) (b : Nat) (s : (Nat → Nat → Bool) × Nat) : (Nat → Nat → Bool) × Nat := ((G.2.2 b).foldl (ad1 b) s.1, (G.2.2 b).foldl (bc1 D b) s.2)
def srtN (G : zG) (D : zD) : Nat → (Nat → Nat → Bool) × Nat
  | 0 => (fun _ _ => false, 0)
  | p + 1 => srt G D (D.2.2.2 p) (srtN G D p)
theorem kSort {g : Nat} {G : zG} (hg : g + 3 < 11) (hV : zV G) {D : zD} (hF : zF G D) {b : Nat} (hb : od D b = true) {s : (Nat → Nat → Bool) × Nat} {x : nz_S} (hA : kA x D s.1 s.2) (hs : sK x D) (hk : zK x g G) : ∃ y, f_X5_sortArcs g (nI b) x = some ((), y) ∧ kA y D (srt G D b s).1 (srt G D b s).2 ∧ fT x y := by
  have hlb := hV.l (hF.lt hb)
  obtain ⟨y, y1, y2, y3⟩ := kSort_2 hg hV hF hb (fun u21 x20 => some ((), x20)) (G.2.2 b).length 0 nz_F s.1 s.2 x (by omega) (by unfold nz_F; omega) hA hs hk
  rw [nI_0] at y1
  rw [List.drop_zero] at y2
  exact ⟨y, y1, y2, y3⟩
theorem kRead_24 {g : Nat} {G : zG} (hg : g + 3 < 11) (hV : zV G) {D : zD} (hF : zF G D) (K : Int32 → nz_S → Option (Unit × nz_S)) : ∀ r p fu (x : nz_S), p + r = D.1 → r < fu → kA x D (srtN G D p).1 (srtN G D p).2 → sK x D → zK x g G → ∃ y, f_X5_read_24 g fu (nI p) x K = K (nI D.1) y ∧ kA y D (srtN G D D.1).1 (srtN G D D.1).2 ∧ fT x y
  | 0, p, fu + 1, x, e, _, hA, hs, hk => by
    have h12 := hV.1
    have hle := hF.I.le
    have : p = D.1 := by omega
    subst this
    refine ⟨x, ?_, hA, fT.rf x⟩
    rw [f_X5_read_24, hs.1, if_pos ((z_le (by omega) (by omega)).mpr (Nat.le_refl _))]
  | r + 1, p, fu + 1, x, e, hf, hA, hs, hk => by
    have h12 := hV.1
    have hle := hF.I.le
    have hb : od D (D.2.2.2 p) = true := od_ex.mpr ⟨p, hF.I.2 p (by omega)⟩
    obtain ⟨y, y1, y2, y3⟩ := kSort hg hV hF hb hA hs hk
    obtain ⟨y', s1, s2, s3⟩ := kRead_24 hg hV hF K r (p + 1) fu y (by omega) (by omega) y2 (y3.ks hs) (y3.S.K hg hk)
    refine ⟨y', ?_, s2, y3.tr s3⟩
    rw [f_X5_read_24, hs.1, if_neg (by rw [z_le (by omega) (by omega)]; omega)]
    simp only [z_in (show p < 12 by omega) (by omega), z_chk, z_N (show p < 2147483648 by omega), hs.2.2.1 p (by omega), y1, z_bnd, nI_1]
    exact s1
theorem ad1_fold (b : Nat) (v u : Nat) : ∀ (l : List Nat) (sn : Nat → Nat → Bool), l.foldl (ad1 b) sn v u = (sn v u || (decide (v = b) && decide (u ∈ l)))
  | [], sn => by simp
  | t :: l, sn => by
    rw [List.foldl_cons, ad1_fold b v u l]
    by_cases h1 : v = b
    · by_cases h2 : u = t
      · simp [ad1, h1, h2]
      · simp [ad1, h1, h2]
    · simp [ad1, h1]
theorem srtN_1 {G : zG} {D : zD} (hF : zF G D) : ∀ p, p ≤ D.1 → ∀ v u, (srtN G D p).1 v u = true ↔ (∃ k, k < p ∧ D.2.1 v = some k) ∧ u ∈ G.2.2 v
  | 0, _, v, u => by
    constructor
    · intro h; cases h
    · rintro ⟨⟨k, h, -⟩, -⟩; exact absurd h (Nat.not_lt_zero k)
  | p + 1, hp, v, u => by
    show (G.2.2 (D.2.2.2 p)).foldl (ad1 (D.2.2.2 p)) (srtN G D p).1 v u = true ↔ _
    rw [ad1_fold, Bool.or_eq_true, srtN_1 hF p (by omega), Bool.and_eq_true, decide_eq_true_iff, decide_eq_true_iff]
    constructor
    · rintro (⟨⟨k, h1, h2⟩, h3⟩ | ⟨h1, h2⟩)
      · exact ⟨⟨k, by omega, h2⟩, h3⟩
      · exact ⟨⟨p, by omega, by rw [h1]; exact hF.I.2 p (by omega)⟩, by rw [h1]; exact h2⟩
    · rintro ⟨⟨k, h1, h2⟩, h3⟩
      by_cases hk : k = p
      · have := (hF.I.1 v k h2).2.2
        rw [hk] at this
        exact Or.inr ⟨this.symm, by rw [this]; exact h3⟩
      · exact Or.inl ⟨⟨k, by omega, h2⟩, h3⟩
theorem srtN_all {G : zG} {D : zD} (hF : zF G D) (v u : Nat) : (srtN G D D.1).1 v u = tg0 G D v u := by
  rw [Bool.eq_iff_iff, srtN_1 hF D.1 (Nat.le_refl _)]
  unfold tg0
  rw [Bool.and_eq_true, gGo_mem, od_ex]
  constructor
  · rintro ⟨⟨k, -, h⟩, h2⟩; exact ⟨⟨k, h⟩, h2⟩
  · rintro ⟨⟨k, h⟩, h2⟩; exact ⟨⟨k, (hF.I.1 v k h).2.1, h⟩, h2⟩
/-! how many arcs go back -/
def sumN (f : Nat → Nat) : Nat → Nat
  | 0 => 0
  | n + 1 => sumN f n + f n
theorem sumN_ext {f f' : Nat → Nat} : ∀ n, (∀ b, b < n → f' b = f b) → sumN f' n = sumN f n
  | 0, _ => rfl
  | n + 1, h => by rw [sumN, sumN, sumN_ext n (fun b hb => h b (by omega)), h n (by omega)]
theorem sumN_one {f f' : Nat → Nat} {b0 m : Nat} (h : ∀ b, b ≠ b0 → f' b = f b) (h0 : f' b0 = f b0 + m) : ∀ n, b0 < n → sumN f' n = sumN f n + m
  | 0, q => absurd q (Nat.not_lt_zero _)
  | n + 1, q => by
    rw [sumN, sumN]
    by_cases hn : n = b0
    · subst hn
      rw [h0, sumN_ext n (fun b hb => h b (by omega))]; omega
    · rw [sumN_one h h0 n (by omega), h n hn]; omega
theorem sumN_0 : ∀ n, sumN (fun _ => 0) n = 0
  | 0 => rfl
  | n + 1 => by rw [sumN, sumN_0 n]
def bcN (G : zG) (D : zD) (b : Nat) : Nat := (G.2.2 b).foldl (bc1 D b) 0
theorem bc1_add (D : zD) (b : Nat) : ∀ (l : List Nat) (n : Nat), l.foldl (bc1 D b) n = n + l.foldl (bc1 D b) 0
  | [], n => rfl
  | t :: l, n => by
    rw [List.foldl_cons, List.foldl_cons, bc1_add D b l, bc1_add D b l (bc1 D b 0 t)]
    unfold bc1
    split <;> omega
theorem srtN_2 {G : zG} {D : zD} (hF : zF G D) : ∀ p, p ≤ D.1 → (srtN G D p).2 = sumN (fun b => match D.2.1 b with | some k => if k < p then bcN G D b else 0 | none => 0) G.1
  | 0, _ => by
    rw [sumN_ext (f := fun _ => 0) G.1 (fun b _ => ?_), sumN_0]
    · rfl
    · cases D.2.1 b with
      | none => rfl
      | some k => simp
  | p + 1, hp => by
    show (G.2.2 (D.2.2.2 p)).foldl (bc1 D (D.2.2.2 p)) (srtN G D p).2 = _
    rw [bc1_add, srtN_2 hF p (by omega)]
    refine (sumN_one (b0 := D.2.2.2 p) (m := bcN G D (D.2.2.2 p)) (fun b hb => ?_) ?_ G.1 (hF.I.at_lt (by omega))).symm
    · cases hv : D.2.1 b with
      | none => rfl
      | some k =>
        have : k ≠ p := fun e => hb (by rw [← e]; exact ((hF.I.1 b k hv).2.2).symm)
        simp only []
        by_cases hk : k < p
        · rw [if_pos hk, if_pos (by omega)]
        · rw [if_neg hk, if_neg (by omega)]
    · rw [hF.I.2 p (by omega)]
      simp
theorem srtN_sum {G : zG} {D : zD} (hF : zF G D) : (srtN G D D.1).2 = sumN (fun b => bcN G D b) G.1 := by
  rw [srtN_2 hF D.1 (Nat.le_refl _)]
  refine (sumN_ext G.1 (fun b _ => ?_)).symm
  cases hv : D.2.1 b with
  | some k => simp only []; rw [if_pos (hF.I.1 b k hv).2.1]
  | none =>
    show bcN G D b = 0
    have : ∀ l : List Nat, l.foldl (bc1 D b) 0 = 0 := by
      intro l
      induction l with
      | nil => rfl
      | cons t l ih => rw [List.foldl_cons]; unfold bc1 at *; rw [abv_n2 hv]; exact ih
    exact this _
