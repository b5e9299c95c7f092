/-! ONE WORLD: cells of a fixed table tb (rows of ints or booleans; objects whose fields are ints, the one long, or cells of the table), at the addresses q; their contents are the state x: x.1 cell place, x.2 the long. -/
abbrev nz_S : Type := (Nat → Nat → Int32) × Int64
abbrev nz_K : Type := (Nat × Bool) ⊕ (Nat × List (Bool ⊕ Nat))
abbrev nz_O : Type := va_G × ClassId × ClassId
abbrev nz_C : Type := (Program × Launch × Env × Room × State) × (MethodId × Array Value × List Frame × Method × Code) × ((State → Prop) × nz_O)
abbrev nz_cl : List vw_C := [(RX0, TX0, 4), (RX1, TX1, 3), (RX2, TX2, 4), (RX3, TX3, 4), (RX4, TX4, 2), (RX5, TX5, 11), (RX6, TX6, 2), (RX7, TX7, 8), (RX8, TX8, 28)]
def nz_set (x : nz_S) (c : Nat) (f : Nat → Int32) : nz_S := (va_up x.1 c f, x.2)
def nz_put (x : nz_S) (c i : Nat) (v : Int32) : nz_S := nz_set x c (upd (x.1 c) i v)
def nz_lng (x : nz_S) (v : Int64) : nz_S := (x.1, v)
def nz_fv (q : Nat → Nat) (x : nz_S) (c k : Nat) (f : Bool ⊕ Nat) : Value := match f with
  | .inl false => .int (x.1 c k)
  | .inl true => .long x.2
  | .inr d => .ref (q d)
def nz_fs (q : Nat → Nat) (x : nz_S) (c : Nat) : Nat → List (Bool ⊕ Nat) → List Value
  | _, [] => []
  | k, f :: fs => nz_fv q x c k f :: nz_fs q x c (k + 1) fs
def nz_E (w : nz_O) (q : Nat → Nat) (x : nz_S) (c : Nat) (d : nz_K) : va_E := match d with
  | .inl (n, false) => .inl (w.2.1, n, .inl (x.1 c))
  | .inl (n, true) => .inl (w.2.2, n, .inl (x.1 c))
  | .inr (ci, fs) => .inr (ci, nz_fs q x c 0 fs)
def nz_Wl (w : nz_O) (q : Nat → Nat) (x : nz_S) : Nat → List nz_K → va_W
  | _, [] => []
  | k, d :: ds => (q k, nz_E w q x k d) :: nz_Wl w q x (k + 1) ds
abbrev nz_W (w : nz_O) (q : Nat → Nat) (x : nz_S) (tb : List nz_K) : va_W := nz_Wl w q x 0 tb
def nz_A (tb : List nz_K) (q : Nat → Nat) (sz : Nat) : Nat → Prop := fun a => (∃ k, k < tb.length ∧ a = q k) ∨ sz ≤ a
abbrev nz_ty (w : nz_O) : List (ClassId × FieldType) := [(w.2.1, .int), (w.2.2, .boolean)]
theorem nz_fs_get (q : Nat → Nat) (x : nz_S) (c : Nat) : ∀ (fs : List (Bool ⊕ Nat)) (k i : Nat), (nz_fs q x c k fs)[i]? = (fs[i]?).map (nz_fv q x c (k + i))
  | [], _, _ => by simp [nz_fs]
  | f :: fs, k, 0 => by simp [nz_fs]
  | f :: fs, k, i + 1 => by
    have h := nz_fs_get q x c fs (k + 1) i
    simp only [nz_fs, List.getElem?_cons_succ, h]
    rw [show k + 1 + i = k + (i + 1) by omega]
theorem nz_fs_len (q : Nat → Nat) (x : nz_S) (c : Nat) : ∀ (fs : List (Bool ⊕ Nat)) (k : Nat), (nz_fs q x c k fs).length = fs.length
  | [], _ => rfl
  | f :: fs, k => by simp [nz_fs, nz_fs_len q x c fs (k + 1)]
theorem nz_Wl_get (w : nz_O) (q : Nat → Nat) (x : nz_S) : ∀ (ds : List nz_K) (k i : Nat), (nz_Wl w q x k ds)[i]? = (ds[i]?).map (fun d => (q (k + i), nz_E w q x (k + i) d))
  | [], _, _ => by simp [nz_Wl]
  | d :: ds, k, 0 => by simp [nz_Wl]
  | d :: ds, k, i + 1 => by
    have h := nz_Wl_get w q x ds (k + 1) i
    simp only [nz_Wl, List.getElem?_cons_succ, h]
    rw [show k + 1 + i = k + (i + 1) by omega]
theorem nz_Wl_len (w : nz_O) (q : Nat → Nat) (x : nz_S) : ∀ (ds : List nz_K) (k : Nat), (nz_Wl w q x k ds).length = ds.length
  | [], _ => rfl
  | d :: ds, k => by simp [nz_Wl, nz_Wl_len w q x ds (k + 1)]
theorem nz_at {w : nz_O} {q : Nat → Nat} {x : nz_S} {tb : List nz_K} {c : Nat} {d : nz_K} (h : tb[c]? = some d) : (nz_W w q x tb)[c]? = some (q c, nz_E w q x c d) := by
  rw [nz_Wl_get, h]; simp
theorem nz_setW {w : nz_O} {q : Nat → Nat} {x x' : nz_S} {tb : List nz_K} {c : Nat} {d : nz_K} (h : tb[c]? = some d) (ho : ∀ c' d', c' ≠ c → tb[c']? = some d' → nz_E w q x' c' d' = nz_E w q x c' d') : (nz_W w q x tb).set c (q c, nz_E w q x' c d) = nz_W w q x' tb := by
  apply List.ext_getElem?
  intro i
  rw [List.getElem?_set, nz_Wl_get, nz_Wl_get, nz_Wl_len]
  by_cases hi : c = i
  · subst hi
    obtain ⟨hl, he⟩ := List.getElem?_eq_some_iff.mp h
    simp [hl, he]
  · rw [if_neg hi]
    cases hd : tb[i]? with
    | none => rfl
    | some d' => simp only [Option.map_some, Nat.zero_add]; rw [ho i d' (fun e => hi e.symm) hd]
theorem nz_fs_cong {q : Nat → Nat} {x x' : nz_S} {c : Nat} (h1 : x'.1 c = x.1 c) (h2 : x'.2 = x.2) : ∀ (fs : List (Bool ⊕ Nat)) (k : Nat), nz_fs q x' c k fs = nz_fs q x c k fs
  | [], _ => rfl
  | f :: fs, k => by
    rw [nz_fs, nz_fs, nz_fs_cong h1 h2 fs (k + 1)]
    congr 1
    rcases f with (_ | _) | d <;> simp [nz_fv, h1, h2]
theorem nz_E_cong {w : nz_O} {q : Nat → Nat} {x x' : nz_S} {c : Nat} {d : nz_K} (h1 : x'.1 c = x.1 c) (h2 : x'.2 = x.2) : nz_E w q x' c d = nz_E w q x c d := by
  rcases d with ⟨n, (_ | _)⟩ | ⟨ci, fs⟩
  · simp [nz_E, h1]
  · simp [nz_E, h1]
  · simp [nz_E, nz_fs_cong h1 h2]
theorem nz_set_ne {x : nz_S} {c c' : Nat} {f : Nat → Int32} (h : c' ≠ c) : (nz_set x c f).1 c' = x.1 c' := by simp [nz_set, va_up, h]
theorem nz_set_eq {x : nz_S} {c : Nat} {f : Nat → Int32} : (nz_set x c f).1 c = f := by simp [nz_set, va_up]
theorem nz_set_2 {x : nz_S} {c : Nat} {f : Nat → Int32} : (nz_set x c f).2 = x.2 := rfl
theorem nz_setA {w : nz_O} {q : Nat → Nat} {x : nz_S} {tb : List nz_K} {c n : Nat} {f : Nat → Int32} (h : tb[c]? = some (.inl (n, false))) : (nz_W w q x tb).set c (q c, .inl (w.2.1, n, .inl f)) = nz_W w q (nz_set x c f) tb := by
  have e := nz_setW (w := w) (q := q) (x := x) (x' := nz_set x c f) h (fun c' d' hc _ => nz_E_cong (nz_set_ne hc) rfl)
  rw [← e]
  simp [nz_E, nz_set_eq]
theorem nz_setZ {w : nz_O} {q : Nat → Nat} {x : nz_S} {tb : List nz_K} {c n : Nat} {f : Nat → Int32} (h : tb[c]? = some (.inl (n, true))) : (nz_W w q x tb).set c (q c, .inl (w.2.2, n, .inl f)) = nz_W w q (nz_set x c f) tb := by
  have e := nz_setW (w := w) (q := q) (x := x) (x' := nz_set x c f) h (fun c' d' hc _ => nz_E_cong (nz_set_ne hc) rfl)
  rw [← e]
  simp [nz_E, nz_set_eq]
theorem nz_setF {w : nz_O} {q : Nat → Nat} {x : nz_S} {tb : List nz_K} {c ci k : Nat} {fs : List (Bool ⊕ Nat)} {v : Int32} (h : tb[c]? = some (.inr (ci, fs))) (hk : fs[k]? = some (.inl false)) : (nz_W w q x tb).set c (q c, .inr (ci, (nz_fs q x c 0 fs).set k (.int v))) = nz_W w q (nz_put x c k v) tb := by
  have e := nz_setW (w := w) (q := q) (x := x) (x' := nz_put x c k v) h (fun c' d' hc _ => nz_E_cong (nz_set_ne hc) rfl)
  rw [← e]
  have e2 : (nz_fs q x c 0 fs).set k (.int v) = nz_fs q (nz_put x c k v) c 0 fs := by
    apply List.ext_getElem?
    intro i
    rw [List.getElem?_set, nz_fs_get, nz_fs_get, nz_fs_len]
    by_cases hi : k = i
    · subst hi
      obtain ⟨hl, he⟩ := List.getElem?_eq_some_iff.mp hk
      simp [hl, he, nz_fv, nz_put, nz_set_eq, upd]
    · rw [if_neg hi]
      cases hd : fs[i]? with
      | none => rfl
      | some f =>
        have hi' : i ≠ k := fun e => hi e.symm
        rcases f with (_ | _) | d <;> simp [nz_fv, nz_put, nz_set_eq, upd, hi', nz_set_2]
  rw [e2]
  rfl
def nz_nol (tb : List nz_K) (c : Nat) : Bool := (List.range tb.length).all (fun k => k == c || match tb[k]? with
  | some (.inr (_, fs)) => fs.all (fun f => match f with | .inl true => false | _ => true)
  | _ => true)
theorem nz_fs_congL {q : Nat → Nat} {x : nz_S} {v : Int64} {c : Nat} : ∀ (fs : List (Bool ⊕ Nat)) (k : Nat), fs.all (fun f => match f with | .inl true => false | _ => true) = true → nz_fs q (nz_lng x v) c k fs = nz_fs q x c k fs
  | [], _, _ => rfl
  | f :: fs, k, h => by
    rw [List.all_cons, Bool.and_eq_true] at h
    rw [nz_fs, nz_fs, nz_fs_congL fs (k + 1) h.2]
    congr 1
    rcases f with (_ | _) | d
    · rfl
    · exact absurd h.1 (by simp)
    · rfl
theorem nz_setL {w : nz_O} {q : Nat → Nat} {x : nz_S} {tb : List nz_K} {c ci k : Nat} {fs : List (Bool ⊕ Nat)} {v : Int64} (h : tb[c]? = some (.inr (ci, fs))) (hk : fs[k]? = some (.inl true)) (h1 : ∀ j, fs[j]? = some (.inl true) → j = k) (hn : nz_nol tb c = true) : (nz_W w q x tb).set c (q c, .inr (ci, (nz_fs q x c 0 fs).set k (.long v))) = nz_W w q (nz_lng x v) tb := by
  have e := nz_setW (w := w) (q := q) (x := x) (x' := nz_lng x v) h (fun c' d' hc hd => by
    rcases d' with ⟨n, (_ | _)⟩ | ⟨ci', fs'⟩
    · rfl
    · rfl
    · have hl : c' < tb.length := (List.getElem?_eq_some_iff.mp hd).1
      have h2 := List.all_eq_true.mp hn c' (List.mem_range.mpr hl)
      rw [hd] at h2
      have h3 : (c' == c) = false := by simpa using hc
      rw [h3, Bool.false_or] at h2
      simp only [nz_E]
      rw [nz_fs_congL fs' 0 h2])
  rw [← e]
  have e2 : (nz_fs q x c 0 fs).set k (.long v) = nz_fs q (nz_lng x v) c 0 fs := by
    apply List.ext_getElem?
    intro i
    rw [List.getElem?_set, nz_fs_get, nz_fs_get, nz_fs_len]
    by_cases hi : k = i
    · subst hi
      obtain ⟨hl, he⟩ := List.getElem?_eq_some_iff.mp hk
      simp [hl, he, nz_fv, nz_lng]
    · rw [if_neg hi]
      cases hd : fs[i]? with
      | none => rfl
      | some f =>
        rcases f with (_ | _) | d
        · rfl
        · exact absurd (h1 i hd).symm hi
        · rfl
  rw [e2]
  rfl
/-! locals: a list in which the first entry of a place counts -/
def nz_lk : List (Nat × Value) → Nat → Option Value
  | [], _ => none
  | (j, v) :: r, i => match Nat.beq j i with
    | true => some v
    | false => nz_lk r i
def nz_has (ls : Array Slot) (nL : Nat) (lv : List (Nat × Value)) : Prop := ls.size = nL ∧ lv_wf ls ∧ ∀ i v, nz_lk lv i = some v → ls[i]? = some (.val v)
theorem nz_lk_mem : ∀ {lv : List (Nat × Value)} {i : Nat} {v : Value}, nz_lk lv i = some v → (i, v) ∈ lv
  | [], _, _, h => by cases h
  | (j, w) :: r, i, v, h => by
    unfold nz_lk at h
    cases hb : Nat.beq j i with
    | true =>
      rw [hb] at h
      have e := Nat.eq_of_beq_eq_true hb
      cases h
      subst e
      exact List.mem_cons_self
    | false =>
      rw [hb] at h
      exact List.mem_cons_of_mem _ (nz_lk_mem h)
theorem nz_has_of {ls : Array Slot} {nL : Nat} {lv : List (Nat × Value)} (h : lv_has ls nL lv) : nz_has ls nL lv := ⟨h.1, h.2.1, fun _ _ hi => h.2.2 _ (nz_lk_mem hi)⟩
def nz_nm (lv : List (Nat × Value)) : List (Nat × Value) := lv.filter (fun p => match nz_lk lv p.1 with | some v => true | none => false)
/-- the entries that count, as a list -/
def nz_cn : List (Nat × Value) → List Nat → List (Nat × Value)
  | [], _ => []
  | (j, v) :: r, seen => if j ∈ seen then nz_cn r seen else (j, v) :: nz_cn r (j :: seen)
theorem nz_cn_mem : ∀ (lv : List (Nat × Value)) (seen : List Nat) (p : Nat × Value), p ∈ nz_cn lv seen → p.1 ∉ seen ∧ nz_lk lv p.1 = some p.2
  | [], _, p, h => by cases h
  | (j, v) :: r, seen, p, h => by
    unfold nz_cn at h
    by_cases hj : j ∈ seen
    · rw [if_pos hj] at h
      obtain ⟨h1, h2⟩ := nz_cn_mem r seen p h
      refine ⟨h1, ?_⟩
      unfold nz_lk
      have : Nat.beq j p.1 = false := by
        cases hb : Nat.beq j p.1 with
        | false => rfl
        | true => exact absurd (Nat.eq_of_beq_eq_true hb ▸ hj) h1
      rw [this]; exact h2
    · rw [if_neg hj] at h
      rcases List.mem_cons.mp h with rfl | h
      · refine ⟨hj, ?_⟩
        unfold nz_lk
        simp
      · obtain ⟨h1, h2⟩ := nz_cn_mem r (j :: seen) p h
        refine ⟨fun q => h1 (List.mem_cons_of_mem _ q), ?_⟩
        unfold nz_lk
        have : Nat.beq j p.1 = false := by
          cases hb : Nat.beq j p.1 with
          | false => rfl
          | true => exact absurd (by rw [Nat.eq_of_beq_eq_true hb]; exact List.mem_cons_self) h1
        rw [this]; exact h2
theorem nz_cn_of : ∀ (lv : List (Nat × Value)) (seen : List Nat) (i : Nat) (v : Value), i ∉ seen → nz_lk lv i = some v → (i, v) ∈ nz_cn lv seen
  | [], _, _, _, _, h => by cases h
  | (j, w) :: r, seen, i, v, hi, h => by
    unfold nz_lk at h
    unfold nz_cn
    cases hb : Nat.beq j i with
    | true =>
      rw [hb] at h
      have e := Nat.eq_of_beq_eq_true hb
      cases h
      subst e
      rw [if_neg hi]
      exact List.mem_cons_self
    | false =>
      rw [hb] at h
      have hne : j ≠ i := fun e => by rw [e] at hb; simp at hb
      by_cases hj : j ∈ seen
      · rw [if_pos hj]; exact nz_cn_of r seen i v hi h
      · rw [if_neg hj]
        exact List.mem_cons_of_mem _ (nz_cn_of r (j :: seen) i v (fun q => (List.mem_cons.mp q).elim (fun e => hne e.symm) hi) h)
theorem nz_has_list {ls : Array Slot} {nL : Nat} {lv : List (Nat × Value)} (h : nz_has ls nL lv) : lv_has ls nL (nz_cn lv []) := ⟨h.1, h.2.1, fun p hp => h.2.2 _ _ (nz_cn_mem lv [] p hp).2⟩
def nz_c1 (o : Option Value) : Bool := match o with
  | some (.long _) => false
  | some (.double _) => false
  | _ => true
def nz_okS (lv : List (Nat × Value)) : Nat → Bool
  | 0 => true
  | i + 1 => nz_c1 (nz_lk lv i)
theorem nz_c1_cat {v : Value} (h : nz_c1 (some v) = true) : v.category = 1 := by
  cases v <;> first | rfl | (simp [nz_c1] at h)
theorem nz_has_st {ls : Array Slot} {nL : Nat} {lv : List (Nat × Value)} {i : Nat} {w : Value} (hok : nz_okS lv i = true)
    (h' : lv_has ls nL ((i, w) :: (nz_cn lv []).filter (fun q => !(q.1 == i) && !(q.1 + 1 == i && q.2.category == 2)))) : nz_has ls nL ((i, w) :: lv) := by
  refine ⟨h'.1, h'.2.1, fun j v hj => ?_⟩
  unfold nz_lk at hj
  cases hb : Nat.beq i j with
  | true =>
    rw [hb] at hj
    have e := Nat.eq_of_beq_eq_true hb
    cases hj
    subst e
    exact h'.2.2 (i, w) List.mem_cons_self
  | false =>
    rw [hb] at hj
    have hj : nz_lk lv j = some v := hj
    have hne : j ≠ i := fun e => by rw [e] at hb; simp at hb
    refine h'.2.2 (j, v) (List.mem_cons_of_mem _ (List.mem_filter.mpr ⟨nz_cn_of lv [] j v (by simp) hj, ?_⟩))
    simp only [Bool.and_eq_true, Bool.not_eq_true', beq_eq_false_iff_ne, ne_eq, Bool.and_eq_false_iff]
    refine ⟨hne, ?_⟩
    by_cases he : j + 1 = i
    · right
      subst he
      have hok : nz_c1 (nz_lk lv j) = true := hok
      rw [hj] at hok
      rw [nz_c1_cat hok]
      simp
    · left
      simpa using he
theorem nz_has_st2 {ls : Array Slot} {nL : Nat} {lv : List (Nat × Value)} {i : Nat} {w : Value} (hok : nz_okS lv i = true) (hno : nz_lk lv (i + 1) = none)
    (h' : lv_has ls nL ((i, w) :: (nz_cn lv []).filter (fun q => !(q.1 == i) && (!(q.1 == i + 1) && !(q.1 + 1 == i && q.2.category == 2))))) : nz_has ls nL ((i, w) :: lv) := by
  refine ⟨h'.1, h'.2.1, fun j v hj => ?_⟩
  unfold nz_lk at hj
  cases hb : Nat.beq i j with
  | true =>
    rw [hb] at hj
    have e := Nat.eq_of_beq_eq_true hb
    cases hj
    subst e
    exact h'.2.2 (i, w) List.mem_cons_self
  | false =>
    rw [hb] at hj
    have hj : nz_lk lv j = some v := hj
    have hne : j ≠ i := fun e => by rw [e] at hb; simp at hb
    have hne2 : j ≠ i + 1 := fun e => by rw [e, hno] at hj; cases hj
    refine h'.2.2 (j, v) (List.mem_cons_of_mem _ (List.mem_filter.mpr ⟨nz_cn_of lv [] j v (by simp) hj, ?_⟩))
    simp only [Bool.and_eq_true, Bool.not_eq_true', beq_eq_false_iff_ne, ne_eq, Bool.and_eq_false_iff]
    refine ⟨hne, hne2, ?_⟩
    by_cases he : j + 1 = i
    · right
      subst he
      have hok : nz_c1 (nz_lk lv j) = true := hok
      rw [hj] at hok
      rw [nz_c1_cat hok]
      simp
    · left
      simpa using he
def nz_sub (lv : List (Nat × Value)) : List (Nat × Value) → Prop
  | [] => True
  | p :: r => nz_lk lv p.1 = some p.2 ∧ nz_sub lv r
theorem nz_sub_mem {lv : List (Nat × Value)} : ∀ {l : List (Nat × Value)}, nz_sub lv l → ∀ p ∈ l, nz_lk lv p.1 = some p.2
  | [], _, _, h => by cases h
  | q :: r, h, p, hp => by
    rcases List.mem_cons.mp hp with rfl | hp
    · exact h.1
    · exact nz_sub_mem h.2 p hp
theorem nz_has_sub {ls : Array Slot} {nL : Nat} {lv lv' : List (Nat × Value)} (hs : nz_sub lv lv') (h : nz_has ls nL lv) : nz_has ls nL lv' := ⟨h.1, h.2.1, fun i v hi => h.2.2 i v (nz_sub_mem hs (i, v) (nz_lk_mem hi))⟩
def nz_in (i : Int32) (n : Nat) : Bool := decide (¬ i < 0 ∧ i.toNatClampNeg < n)
theorem nz_in_vp {i : Int32} {n : Nat} (h : nz_in i n = true) : vp_in i n := by
  have h := of_decide_eq_true h
  intro q
  rcases q with q | q
  · exact h.1 q
  · omega
/-! links between nest mates: kept beside the words -/
def nz_Nst (U : State) : Prop := ∀ w ∈ nz_nest, va_Nw w U
def nz_isN (w : Cond) : Bool := match w with
  | .fieldLinkNest _ _ _ _ _ _ => true
  | .methodLinkNest _ _ _ _ => true
  | _ => false
theorem nz_nest_all : nz_nest.all nz_isN = true := rfl
theorem nz_isN_warm {w : Cond} (h : nz_isN w = true) {s U : State} (hW : s.WarmedH U.vm) (hZ : va_Nw w s) : va_Nw w U := by
  cases w <;> first | exact va_Nw.warmF hW hZ | exact va_Nw.warmM hW hZ | exact absurd h (by simp [nz_isN])
theorem nz_isN_tab {w : Cond} (h : nz_isN w = true) : w.onTables = true := by
  cases w <;> first | rfl | exact absurd h (by simp [nz_isN])
theorem nz_Nst.warm {s U : State} (hW : s.WarmedH U.vm) (h : nz_Nst s) : nz_Nst U := fun w hw => nz_isN_warm (List.all_eq_true.mp nz_nest_all w hw) hW (h w hw)
theorem nz_Nst.same {s U : State} (hv : s.vm = U.vm) (h : nz_Nst s) : nz_Nst U := fun w hw => va_Nw.same (nz_isN_tab (List.all_eq_true.mp nz_nest_all w hw)) hv (h w hw)
theorem nz_Nst.use {s : State} (h : nz_Nst s) {w : Cond} (hw : w ∈ nz_nest) (A : Array Value) : w.before A s = true := va_Nw.use (nz_isN_tab (List.all_eq_true.mp nz_nest_all w hw)) (h w hw)
/-! THE WALK -/
def nz_St (κ : nz_C) (q : Nat → Nat) (tb : List nz_K) (nL pc : Nat) (lv : List (Nat × Value)) (st : List Value) (x : nz_S) : Prop :=
  ∀ (H : Heap) (locs : List Loc) (ls : Array Slot), va_P κ.2.2.2.1 nz_cl (nz_W κ.2.2.2 q x tb) H → va_D (nz_A tb q κ.1.2.2.2.2.heap.size) (nz_W κ.2.2.2 q x tb) → va_S (nz_A tb q κ.1.2.2.2.2.heap.size) κ.1.2.2.2.2.heap H locs → nz_has ls nL lv →
    W κ.1.1 κ.1.2.1 κ.1.2.2.1 κ.1.2.2.2.1 κ.1.2.2.2.2 κ.2.1.1 κ.2.1.2.1 κ.2.1.2.2.1 κ.2.1.2.2.2.1 κ.2.1.2.2.2.2 H locs 0 0 κ.2.2.1 (F0 κ.2.1.1 pc ls st)
def nz_Env (κ : nz_C) (q : Nat → Nat) (tb : List nz_K) (nL : Nat) (cc : ByteArray) (own : String) (Ts : List Cond) (rm : Room) : Prop :=
  κ.1.1.tables.exec = Jvm.exec ∧ κ.2.1.2.2.2.2.code = cc ∧ κ.2.1.2.2.2.2.maxLocals = nL ∧ κ.1.2.2.2.2.vm.findClass own = some κ.2.1.1.cls ∧ (∀ w ∈ Ts, w.before κ.2.1.2.1 κ.1.2.2.2.2 = true) ∧ va_K κ.2.2.2.1 nz_cl (nz_ty κ.2.2.2) κ.1.2.2.2.2 ∧ κ.2.1.2.2.2.1.locks = false ∧ κ.1.2.2.2.1 = rm ∧ rm.cells = 0 ∧ rm.slots = 0 ∧ nz_Nst κ.1.2.2.2.2
section NZ
variable {κ : nz_C} {q : Nat → Nat} {tb : List nz_K} {nL pc : Nat} {cc : ByteArray} {own : String} {Ts : List Cond} {rm : Room} {lv : List (Nat × Value)} {st : List Value} {x : nz_S}
theorem nz_Env.hx (E : nz_Env κ q tb nL cc own Ts rm) : κ.1.1.tables.exec = Jvm.exec := E.1
theorem nz_Env.hb (E : nz_Env κ q tb nL cc own Ts rm) : κ.2.1.2.2.2.2.code = cc := E.2.1
theorem nz_Env.hml (E : nz_Env κ q tb nL cc own Ts rm) : κ.2.1.2.2.2.2.maxLocals = nL := E.2.2.1
theorem nz_Env.hown (E : nz_Env κ q tb nL cc own Ts rm) : κ.1.2.2.2.2.vm.findClass own = some κ.2.1.1.cls := E.2.2.2.1
theorem nz_Env.hts (E : nz_Env κ q tb nL cc own Ts rm) : ∀ w ∈ Ts, w.before κ.2.1.2.1 κ.1.2.2.2.2 = true := E.2.2.2.2.1
theorem nz_Env.hK (E : nz_Env κ q tb nL cc own Ts rm) : va_K κ.2.2.2.1 nz_cl (nz_ty κ.2.2.2) κ.1.2.2.2.2 := E.2.2.2.2.2.1
theorem nz_Env.hlk (E : nz_Env κ q tb nL cc own Ts rm) : κ.2.1.2.2.2.1.locks = false := E.2.2.2.2.2.2.1
theorem nz_Env.hR (E : nz_Env κ q tb nL cc own Ts rm) : κ.1.2.2.2.1 = rm := E.2.2.2.2.2.2.2.1
theorem nz_Env.hc0 (E : nz_Env κ q tb nL cc own Ts rm) : rm.cells = 0 := E.2.2.2.2.2.2.2.2.1
theorem nz_Env.hs0 (E : nz_Env κ q tb nL cc own Ts rm) : rm.slots = 0 := E.2.2.2.2.2.2.2.2.2.1
theorem nz_Env.hN (E : nz_Env κ q tb nL cc own Ts rm) : nz_Nst κ.1.2.2.2.2 := E.2.2.2.2.2.2.2.2.2.2
theorem nz_weak {lv' : List (Nat × Value)} (hs : nz_sub lv lv') (k : nz_St κ q tb nL pc lv' st x) : nz_St κ q tb nL pc lv st x := fun H locs ls hP hD hS hl => k H locs ls hP hD hS (nz_has_sub hs hl)

theorem nz_iconst (E : nz_Env κ q tb nL cc own Ts rm) {n : Int} {v : Int32} (d : decode cc pc = .ok (.iconst n, 1)) (hv : (Int32.ofInt n) = v) (k : nz_St κ q tb nL (pc + 1) lv (.int v :: st) x) : nz_St κ q tb nL pc lv st x := fun H locs ls hP hD hS hl => lv_iconst E.hx E.hb d hv (k H locs ls hP hD hS hl)
theorem nz_bipush (E : nz_Env κ q tb nL cc own Ts rm) {n : Int} {v : Int32} (d : decode cc pc = .ok (.bipush n, 2)) (hv : ((Int8.ofInt n).toInt32) = v) (k : nz_St κ q tb nL (pc + 2) lv (.int v :: st) x) : nz_St κ q tb nL pc lv st x := fun H locs ls hP hD hS hl => lv_bipush E.hx E.hb d hv (k H locs ls hP hD hS hl)
theorem nz_sipush (E : nz_Env κ q tb nL cc own Ts rm) {n : Int} {v : Int32} (d : decode cc pc = .ok (.sipush n, 3)) (hv : ((Int16.ofInt n).toInt32) = v) (k : nz_St κ q tb nL (pc + 3) lv (.int v :: st) x) : nz_St κ q tb nL pc lv st x := fun H locs ls hP hD hS hl => lv_sipush E.hx E.hb d hv (k H locs ls hP hD hS hl)
theorem nz_lconst (E : nz_Env κ q tb nL cc own Ts rm) {n : Fin 2} {v : Int64} (d : decode cc pc = .ok (.lconst n, 1)) (hv : Int64.ofNat (n : Nat) = v) (k : nz_St κ q tb nL (pc + 1) lv (.long v :: st) x) : nz_St κ q tb nL pc lv st x := fun H locs ls hP hD hS hl => lv_lconst E.hx E.hb d hv (k H locs ls hP hD hS hl)
theorem nz_iload_n (E : nz_Env κ q tb nL cc own Ts rm) {j : Fin 4} {i : Nat} {v : Int32} (d : decode cc pc = .ok (.iload_n j, 1)) (hi : (j : Nat) = i) (h : nz_lk lv i = some (.int v)) (k : nz_St κ q tb nL (pc + 1) lv (.int v :: st) x) : nz_St κ q tb nL pc lv st x := fun H locs ls hP hD hS hl => lv_iload_n E.hx E.hb d hi (hl.2.2 _ _ h) (k H locs ls hP hD hS hl)
theorem nz_iload (E : nz_Env κ q tb nL cc own Ts rm) {i : Nat} {v : Int32} (d : decode cc pc = .ok (.iload i, 2)) (h : nz_lk lv i = some (.int v)) (k : nz_St κ q tb nL (pc + 2) lv (.int v :: st) x) : nz_St κ q tb nL pc lv st x := fun H locs ls hP hD hS hl => lv_iload E.hx E.hb d (hl.2.2 _ _ h) (k H locs ls hP hD hS hl)
theorem nz_lload_n (E : nz_Env κ q tb nL cc own Ts rm) {j : Fin 4} {i : Nat} {v : Int64} (d : decode cc pc = .ok (.lload_n j, 1)) (hi : (j : Nat) = i) (h : nz_lk lv i = some (.long v)) (k : nz_St κ q tb nL (pc + 1) lv (.long v :: st) x) : nz_St κ q tb nL pc lv st x := fun H locs ls hP hD hS hl => lv_lload_n E.hx E.hb d hi (hl.2.2 _ _ h) (k H locs ls hP hD hS hl)
theorem nz_lload (E : nz_Env κ q tb nL cc own Ts rm) {i : Nat} {v : Int64} (d : decode cc pc = .ok (.lload i, 2)) (h : nz_lk lv i = some (.long v)) (k : nz_St κ q tb nL (pc + 2) lv (.long v :: st) x) : nz_St κ q tb nL pc lv st x := fun H locs ls hP hD hS hl => lv_lload E.hx E.hb d (hl.2.2 _ _ h) (k H locs ls hP hD hS hl)
theorem nz_aload_n (E : nz_Env κ q tb nL cc own Ts rm) {j : Fin 4} {i : Nat} {v : Nat} (d : decode cc pc = .ok (.aload_n j, 1)) (hi : (j : Nat) = i) (h : nz_lk lv i = some (.ref v)) (k : nz_St κ q tb nL (pc + 1) lv (.ref v :: st) x) : nz_St κ q tb nL pc lv st x := fun H locs ls hP hD hS hl => lv_aload_n E.hx E.hb d hi (hl.2.2 _ _ h) (k H locs ls hP hD hS hl)
theorem nz_aload (E : nz_Env κ q tb nL cc own Ts rm) {i : Nat} {v : Nat} (d : decode cc pc = .ok (.aload i, 2)) (h : nz_lk lv i = some (.ref v)) (k : nz_St κ q tb nL (pc + 2) lv (.ref v :: st) x) : nz_St κ q tb nL pc lv st x := fun H locs ls hP hD hS hl => lv_aload E.hx E.hb d (hl.2.2 _ _ h) (k H locs ls hP hD hS hl)
theorem nz_istore_n (E : nz_Env κ q tb nL cc own Ts rm) {j : Fin 4} {i : Nat} {v : Int32} (d : decode cc pc = .ok (.istore_n j, 1)) (hi : (j : Nat) = i) (hn : i < nL) (hok : nz_okS lv i = true) (k : nz_St κ q tb nL (pc + 1) ((i, .int v) :: lv) st x) : nz_St κ q tb nL pc lv (.int v :: st) x := fun H locs ls hP hD hS hl => lv_istore_n E.hx E.hb d hi (nz_has_list hl) hn rfl (fun ls2 hl2 => k H locs ls2 hP hD hS (nz_has_st hok hl2))
theorem nz_istore (E : nz_Env κ q tb nL cc own Ts rm) {i : Nat} {v : Int32} (d : decode cc pc = .ok (.istore i, 2)) (hn : i < nL) (hok : nz_okS lv i = true) (k : nz_St κ q tb nL (pc + 2) ((i, .int v) :: lv) st x) : nz_St κ q tb nL pc lv (.int v :: st) x := fun H locs ls hP hD hS hl => lv_istore E.hx E.hb d (nz_has_list hl) hn rfl (fun ls2 hl2 => k H locs ls2 hP hD hS (nz_has_st hok hl2))
theorem nz_astore_n (E : nz_Env κ q tb nL cc own Ts rm) {j : Fin 4} {i : Nat} {v : Nat} (d : decode cc pc = .ok (.astore_n j, 1)) (hi : (j : Nat) = i) (hn : i < nL) (hok : nz_okS lv i = true) (k : nz_St κ q tb nL (pc + 1) ((i, .ref v) :: lv) st x) : nz_St κ q tb nL pc lv (.ref v :: st) x := fun H locs ls hP hD hS hl => lv_astore_n E.hx E.hb d hi (nz_has_list hl) hn rfl (fun ls2 hl2 => k H locs ls2 hP hD hS (nz_has_st hok hl2))
theorem nz_lstore_n (E : nz_Env κ q tb nL cc own Ts rm) {j : Fin 4} {i : Nat} {v : Int64} (d : decode cc pc = .ok (.lstore_n j, 1)) (hi : (j : Nat) = i) (hn : i + 1 < nL) (hok : nz_okS lv i = true) (hno : nz_lk lv (i + 1) = none) (k : nz_St κ q tb nL (pc + 1) ((i, .long v) :: lv) st x) : nz_St κ q tb nL pc lv (.long v :: st) x := fun H locs ls hP hD hS hl => lv_lstore_n E.hx E.hb d hi (nz_has_list hl) hn rfl (fun ls2 hl2 => k H locs ls2 hP hD hS (nz_has_st2 hok hno hl2))
theorem nz_lstore (E : nz_Env κ q tb nL cc own Ts rm) {i : Nat} {v : Int64} (d : decode cc pc = .ok (.lstore i, 2)) (hn : i + 1 < nL) (hok : nz_okS lv i = true) (hno : nz_lk lv (i + 1) = none) (k : nz_St κ q tb nL (pc + 2) ((i, .long v) :: lv) st x) : nz_St κ q tb nL pc lv (.long v :: st) x := fun H locs ls hP hD hS hl => lv_lstore E.hx E.hb d (nz_has_list hl) hn rfl (fun ls2 hl2 => k H locs ls2 hP hD hS (nz_has_st2 hok hno hl2))
theorem nz_cn_place {lv : List (Nat × Value)} {i : Nat} {v : Value} (h : nz_lk lv i = some v) : ∃ k : Nat, (nz_cn lv [])[k]? = some (i, v) := by
  obtain ⟨k, hk, e⟩ := List.mem_iff_getElem.mp (nz_cn_of lv [] i v (by simp) h)
  exact ⟨k, by rw [List.getElem?_eq_getElem hk, e]⟩
theorem nz_iinc (E : nz_Env κ q tb nL cc own Ts rm) {i : Nat} {n : Int} {v w : Int32} (d : decode cc pc = .ok (.iinc i n, 3)) (h : nz_lk lv i = some (.int v)) (hw : Int32.ofInt n = w) (hn : i < nL) (hok : nz_okS lv i = true) (k : nz_St κ q tb nL (pc + 3) ((i, .int (v + w)) :: lv) st x) : nz_St κ q tb nL pc lv st x := fun H locs ls hP hD hS hl => by
  obtain ⟨j, hj⟩ := nz_cn_place h
  exact lv_iinc E.hx E.hb d (nz_has_list hl) hj (by rw [hw]) hn rfl (fun ls2 hl2 => k H locs ls2 hP hD hS (nz_has_st hok hl2))
theorem nz_iadd (E : nz_Env κ q tb nL cc own Ts rm) {a b : Int32} (d : decode cc pc = .ok (.iadd, 1)) (k : nz_St κ q tb nL (pc + 1) lv (.int (a + b) :: st) x) : nz_St κ q tb nL pc lv (.int b :: .int a :: st) x := fun H locs ls hP hD hS hl => lv_iadd E.hx E.hb d (k H locs ls hP hD hS hl)
theorem nz_isub (E : nz_Env κ q tb nL cc own Ts rm) {a b : Int32} (d : decode cc pc = .ok (.isub, 1)) (k : nz_St κ q tb nL (pc + 1) lv (.int (a - b) :: st) x) : nz_St κ q tb nL pc lv (.int b :: .int a :: st) x := fun H locs ls hP hD hS hl => lv_isub E.hx E.hb d (k H locs ls hP hD hS hl)
theorem nz_imul (E : nz_Env κ q tb nL cc own Ts rm) {a b : Int32} (d : decode cc pc = .ok (.imul, 1)) (k : nz_St κ q tb nL (pc + 1) lv (.int (a * b) :: st) x) : nz_St κ q tb nL pc lv (.int b :: .int a :: st) x := fun H locs ls hP hD hS hl => lv_imul E.hx E.hb d (k H locs ls hP hD hS hl)
theorem nz_iand (E : nz_Env κ q tb nL cc own Ts rm) {a b : Int32} (d : decode cc pc = .ok (.iand, 1)) (k : nz_St κ q tb nL (pc + 1) lv (.int (a &&& b) :: st) x) : nz_St κ q tb nL pc lv (.int b :: .int a :: st) x := fun H locs ls hP hD hS hl => lv_iand E.hx E.hb d (k H locs ls hP hD hS hl)
theorem nz_ior (E : nz_Env κ q tb nL cc own Ts rm) {a b : Int32} (d : decode cc pc = .ok (.ior, 1)) (k : nz_St κ q tb nL (pc + 1) lv (.int (a ||| b) :: st) x) : nz_St κ q tb nL pc lv (.int b :: .int a :: st) x := fun H locs ls hP hD hS hl => lv_ior E.hx E.hb d (k H locs ls hP hD hS hl)
theorem nz_ixor (E : nz_Env κ q tb nL cc own Ts rm) {a b : Int32} (d : decode cc pc = .ok (.ixor, 1)) (k : nz_St κ q tb nL (pc + 1) lv (.int (a ^^^ b) :: st) x) : nz_St κ q tb nL pc lv (.int b :: .int a :: st) x := fun H locs ls hP hD hS hl => lv_ixor E.hx E.hb d (k H locs ls hP hD hS hl)
theorem nz_ishl (E : nz_Env κ q tb nL cc own Ts rm) {a b : Int32} (d : decode cc pc = .ok (.ishl, 1)) (k : nz_St κ q tb nL (pc + 1) lv (.int (a <<< (b &&& 31)) :: st) x) : nz_St κ q tb nL pc lv (.int b :: .int a :: st) x := fun H locs ls hP hD hS hl => lv_ishl E.hx E.hb d (k H locs ls hP hD hS hl)
theorem nz_ishr (E : nz_Env κ q tb nL cc own Ts rm) {a b : Int32} (d : decode cc pc = .ok (.ishr, 1)) (k : nz_St κ q tb nL (pc + 1) lv (.int (a >>> (b &&& 31)) :: st) x) : nz_St κ q tb nL pc lv (.int b :: .int a :: st) x := fun H locs ls hP hD hS hl => lv_ishr E.hx E.hb d (k H locs ls hP hD hS hl)
theorem nz_idiv (E : nz_Env κ q tb nL cc own Ts rm) {a b : Int32} (d : decode cc pc = .ok (.idiv, 1)) (h : (b != 0) = true) (k : nz_St κ q tb nL (pc + 1) lv (.int (a / b) :: st) x) : nz_St κ q tb nL pc lv (.int b :: .int a :: st) x := fun H locs ls hP hD hS hl => lv_idiv E.hx E.hb d (by simpa using h) (k H locs ls hP hD hS hl)
theorem nz_irem (E : nz_Env κ q tb nL cc own Ts rm) {a b : Int32} (d : decode cc pc = .ok (.irem, 1)) (h : (b != 0) = true) (k : nz_St κ q tb nL (pc + 1) lv (.int (a - a / b * b) :: st) x) : nz_St κ q tb nL pc lv (.int b :: .int a :: st) x := fun H locs ls hP hD hS hl => lv_irem E.hx E.hb d (by simpa using h) (k H locs ls hP hD hS hl)
theorem nz_ineg (E : nz_Env κ q tb nL cc own Ts rm) {a : Int32} (d : decode cc pc = .ok (.ineg, 1)) (k : nz_St κ q tb nL (pc + 1) lv (.int (-a) :: st) x) : nz_St κ q tb nL pc lv (.int a :: st) x := fun H locs ls hP hD hS hl => lv_ineg E.hx E.hb d (k H locs ls hP hD hS hl)
theorem nz_iushr (E : nz_Env κ q tb nL cc own Ts rm) {a b : Int32} (d : decode cc pc = .ok (.iushr, 1)) (k : nz_St κ q tb nL (pc + 1) lv (.int ((a.toUInt32 >>> (b.toUInt32 &&& Int32.toUInt32 31)).toInt32) :: st) x) : nz_St κ q tb nL pc lv (.int b :: .int a :: st) x := fun H locs ls hP hD hS hl => lv_iushr E.hx E.hb d rfl (k H locs ls hP hD hS hl)
theorem nz_ladd (E : nz_Env κ q tb nL cc own Ts rm) {a b : Int64} (d : decode cc pc = .ok (.ladd, 1)) (k : nz_St κ q tb nL (pc + 1) lv (.long (a + b) :: st) x) : nz_St κ q tb nL pc lv (.long b :: .long a :: st) x := fun H locs ls hP hD hS hl => lv_ladd E.hx E.hb d (k H locs ls hP hD hS hl)
theorem nz_lsub (E : nz_Env κ q tb nL cc own Ts rm) {a b : Int64} (d : decode cc pc = .ok (.lsub, 1)) (k : nz_St κ q tb nL (pc + 1) lv (.long (a - b) :: st) x) : nz_St κ q tb nL pc lv (.long b :: .long a :: st) x := fun H locs ls hP hD hS hl => lv_lsub E.hx E.hb d (k H locs ls hP hD hS hl)
theorem nz_lmul (E : nz_Env κ q tb nL cc own Ts rm) {a b : Int64} (d : decode cc pc = .ok (.lmul, 1)) (k : nz_St κ q tb nL (pc + 1) lv (.long (a * b) :: st) x) : nz_St κ q tb nL pc lv (.long b :: .long a :: st) x := fun H locs ls hP hD hS hl => lv_lmul E.hx E.hb d (k H locs ls hP hD hS hl)
theorem nz_land (E : nz_Env κ q tb nL cc own Ts rm) {a b : Int64} (d : decode cc pc = .ok (.land, 1)) (k : nz_St κ q tb nL (pc + 1) lv (.long (a &&& b) :: st) x) : nz_St κ q tb nL pc lv (.long b :: .long a :: st) x := fun H locs ls hP hD hS hl => lv_land E.hx E.hb d (k H locs ls hP hD hS hl)
theorem nz_lor (E : nz_Env κ q tb nL cc own Ts rm) {a b : Int64} (d : decode cc pc = .ok (.lor, 1)) (k : nz_St κ q tb nL (pc + 1) lv (.long (a ||| b) :: st) x) : nz_St κ q tb nL pc lv (.long b :: .long a :: st) x := fun H locs ls hP hD hS hl => lv_lor E.hx E.hb d (k H locs ls hP hD hS hl)
theorem nz_ldiv (E : nz_Env κ q tb nL cc own Ts rm) {a b : Int64} (d : decode cc pc = .ok (.ldiv, 1)) (h : (b != 0) = true) (k : nz_St κ q tb nL (pc + 1) lv (.long (a / b) :: st) x) : nz_St κ q tb nL pc lv (.long b :: .long a :: st) x := fun H locs ls hP hD hS hl => lv_ldiv E.hx E.hb d (by simpa using h) (k H locs ls hP hD hS hl)
theorem nz_lrem (E : nz_Env κ q tb nL cc own Ts rm) {a b : Int64} (d : decode cc pc = .ok (.lrem, 1)) (h : (b != 0) = true) (k : nz_St κ q tb nL (pc + 1) lv (.long (a - a / b * b) :: st) x) : nz_St κ q tb nL pc lv (.long b :: .long a :: st) x := fun H locs ls hP hD hS hl => lv_lrem E.hx E.hb d (by simpa using h) (k H locs ls hP hD hS hl)
theorem nz_lshl (E : nz_Env κ q tb nL cc own Ts rm) {a : Int64} {b : Int32} (d : decode cc pc = .ok (.lshl, 1)) (k : nz_St κ q tb nL (pc + 1) lv (.long (a <<< (b.toInt64 &&& 63)) :: st) x) : nz_St κ q tb nL pc lv (.int b :: .long a :: st) x := fun H locs ls hP hD hS hl => lv_lshl E.hx E.hb d rfl (k H locs ls hP hD hS hl)
theorem nz_lushr (E : nz_Env κ q tb nL cc own Ts rm) {a : Int64} {b : Int32} (d : decode cc pc = .ok (.lushr, 1)) (k : nz_St κ q tb nL (pc + 1) lv (.long ((a.toUInt64 >>> (b.toInt64.toUInt64 &&& Int64.toUInt64 63)).toInt64) :: st) x) : nz_St κ q tb nL pc lv (.int b :: .long a :: st) x := fun H locs ls hP hD hS hl => lv_lushr E.hx E.hb d rfl (k H locs ls hP hD hS hl)
theorem nz_i2l (E : nz_Env κ q tb nL cc own Ts rm) {a : Int32} (d : decode cc pc = .ok (.i2l, 1)) (k : nz_St κ q tb nL (pc + 1) lv (.long a.toInt64 :: st) x) : nz_St κ q tb nL pc lv (.int a :: st) x := fun H locs ls hP hD hS hl => lv_i2l E.hx E.hb d rfl (k H locs ls hP hD hS hl)
theorem nz_l2i (E : nz_Env κ q tb nL cc own Ts rm) {a : Int64} (d : decode cc pc = .ok (.l2i, 1)) (k : nz_St κ q tb nL (pc + 1) lv (.int a.toInt32 :: st) x) : nz_St κ q tb nL pc lv (.long a :: st) x := fun H locs ls hP hD hS hl => lv_l2i E.hx E.hb d rfl (k H locs ls hP hD hS hl)
theorem nz_lcmp (E : nz_Env κ q tb nL cc own Ts rm) {a b : Int64} (d : decode cc pc = .ok (.lcmp, 1)) (k : nz_St κ q tb nL (pc + 1) lv (.int (lg_cmp a b) :: st) x) : nz_St κ q tb nL pc lv (.long b :: .long a :: st) x := fun H locs ls hP hD hS hl => W.lcmp E.hx E.hb d (k H locs ls hP hD hS hl)
theorem nz_dup (E : nz_Env κ q tb nL cc own Ts rm) {v : Value} (d : decode cc pc = .ok (.dup, 1)) (hv : v.category = 1) (k : nz_St κ q tb nL (pc + 1) lv (v :: v :: st) x) : nz_St κ q tb nL pc lv (v :: st) x := fun H locs ls hP hD hS hl => lv_dup E.hx E.hb d hv (k H locs ls hP hD hS hl)
theorem nz_dup2 (E : nz_Env κ q tb nL cc own Ts rm) {v w : Value} (d : decode cc pc = .ok (.dup2, 1)) (hv : v.category = 1) (hw : w.category = 1) (k : nz_St κ q tb nL (pc + 1) lv (v :: w :: v :: w :: st) x) : nz_St κ q tb nL pc lv (v :: w :: st) x := fun H locs ls hP hD hS hl => lv_dup2_11 E.hx E.hb d hv hw (k H locs ls hP hD hS hl)
theorem nz_pop (E : nz_Env κ q tb nL cc own Ts rm) {v : Value} (d : decode cc pc = .ok (.pop, 1)) (hv : v.category = 1) (k : nz_St κ q tb nL (pc + 1) lv st x) : nz_St κ q tb nL pc lv (v :: st) x := fun H locs ls hP hD hS hl => lv_pop E.hx E.hb d hv (k H locs ls hP hD hS hl)
theorem nz_goto (E : nz_Env κ q tb nL cc own Ts rm) {off : Int} {tgt : Nat} (d : decode cc pc = .ok (.goto off, 3)) (ht : (pc : Int) + off = (tgt : Int)) (k : nz_St κ q tb nL tgt lv st x) : nz_St κ q tb nL pc lv st x := fun H locs ls hP hD hS hl => lv_goto E.hx E.hb d ht (k H locs ls hP hD hS hl)
theorem nz_if_eq (E : nz_Env κ q tb nL cc own Ts rm) {a : Int32} {off : Int} {tgt : Nat} (d : decode cc pc = .ok (.ifCond .eq off, 3)) (ht : (pc : Int) + off = (tgt : Int)) (kt : a = 0 → nz_St κ q tb nL tgt lv st x) (kf : ¬ (a = 0) → nz_St κ q tb nL (pc + 3) lv st x) : nz_St κ q tb nL pc lv (.int a :: st) x := fun H locs ls hP hD hS hl => lv_if_eq E.hx E.hb d ht (fun h => kt h H locs ls hP hD hS hl) (fun h => kf h H locs ls hP hD hS hl)
theorem nz_icmp_eq (E : nz_Env κ q tb nL cc own Ts rm) {a b : Int32} {off : Int} {tgt : Nat} (d : decode cc pc = .ok (.if_icmp .eq off, 3)) (ht : (pc : Int) + off = (tgt : Int)) (kt : a = b → nz_St κ q tb nL tgt lv st x) (kf : ¬ (a = b) → nz_St κ q tb nL (pc + 3) lv st x) : nz_St κ q tb nL pc lv (.int b :: .int a :: st) x := fun H locs ls hP hD hS hl => lv_icmp_eq E.hx E.hb d ht (fun h => kt h H locs ls hP hD hS hl) (fun h => kf h H locs ls hP hD hS hl)
theorem nz_if_ne (E : nz_Env κ q tb nL cc own Ts rm) {a : Int32} {off : Int} {tgt : Nat} (d : decode cc pc = .ok (.ifCond .ne off, 3)) (ht : (pc : Int) + off = (tgt : Int)) (kt : ¬ (a = 0) → nz_St κ q tb nL tgt lv st x) (kf : a = 0 → nz_St κ q tb nL (pc + 3) lv st x) : nz_St κ q tb nL pc lv (.int a :: st) x := fun H locs ls hP hD hS hl => lv_if_ne E.hx E.hb d ht (fun h => kt h H locs ls hP hD hS hl) (fun h => kf h H locs ls hP hD hS hl)
theorem nz_icmp_ne (E : nz_Env κ q tb nL cc own Ts rm) {a b : Int32} {off : Int} {tgt : Nat} (d : decode cc pc = .ok (.if_icmp .ne off, 3)) (ht : (pc : Int) + off = (tgt : Int)) (kt : ¬ (a = b) → nz_St κ q tb nL tgt lv st x) (kf : a = b → nz_St κ q tb nL (pc + 3) lv st x) : nz_St κ q tb nL pc lv (.int b :: .int a :: st) x := fun H locs ls hP hD hS hl => lv_icmp_ne E.hx E.hb d ht (fun h => kt h H locs ls hP hD hS hl) (fun h => kf h H locs ls hP hD hS hl)
theorem nz_if_lt (E : nz_Env κ q tb nL cc own Ts rm) {a : Int32} {off : Int} {tgt : Nat} (d : decode cc pc = .ok (.ifCond .lt off, 3)) (ht : (pc : Int) + off = (tgt : Int)) (kt : a < 0 → nz_St κ q tb nL tgt lv st x) (kf : ¬ (a < 0) → nz_St κ q tb nL (pc + 3) lv st x) : nz_St κ q tb nL pc lv (.int a :: st) x := fun H locs ls hP hD hS hl => lv_if_lt E.hx E.hb d ht (fun h => kt h H locs ls hP hD hS hl) (fun h => kf h H locs ls hP hD hS hl)
theorem nz_icmp_lt (E : nz_Env κ q tb nL cc own Ts rm) {a b : Int32} {off : Int} {tgt : Nat} (d : decode cc pc = .ok (.if_icmp .lt off, 3)) (ht : (pc : Int) + off = (tgt : Int)) (kt : a < b → nz_St κ q tb nL tgt lv st x) (kf : ¬ (a < b) → nz_St κ q tb nL (pc + 3) lv st x) : nz_St κ q tb nL pc lv (.int b :: .int a :: st) x := fun H locs ls hP hD hS hl => lv_icmp_lt E.hx E.hb d ht (fun h => kt h H locs ls hP hD hS hl) (fun h => kf h H locs ls hP hD hS hl)
theorem nz_if_ge (E : nz_Env κ q tb nL cc own Ts rm) {a : Int32} {off : Int} {tgt : Nat} (d : decode cc pc = .ok (.ifCond .ge off, 3)) (ht : (pc : Int) + off = (tgt : Int)) (kt : 0 ≤ a → nz_St κ q tb nL tgt lv st x) (kf : ¬ (0 ≤ a) → nz_St κ q tb nL (pc + 3) lv st x) : nz_St κ q tb nL pc lv (.int a :: st) x := fun H locs ls hP hD hS hl => lv_if_ge E.hx E.hb d ht (fun h => kt h H locs ls hP hD hS hl) (fun h => kf h H locs ls hP hD hS hl)
theorem nz_icmp_ge (E : nz_Env κ q tb nL cc own Ts rm) {a b : Int32} {off : Int} {tgt : Nat} (d : decode cc pc = .ok (.if_icmp .ge off, 3)) (ht : (pc : Int) + off = (tgt : Int)) (kt : b ≤ a → nz_St κ q tb nL tgt lv st x) (kf : ¬ (b ≤ a) → nz_St κ q tb nL (pc + 3) lv st x) : nz_St κ q tb nL pc lv (.int b :: .int a :: st) x := fun H locs ls hP hD hS hl => lv_icmp_ge E.hx E.hb d ht (fun h => kt h H locs ls hP hD hS hl) (fun h => kf h H locs ls hP hD hS hl)
theorem nz_if_gt (E : nz_Env κ q tb nL cc own Ts rm) {a : Int32} {off : Int} {tgt : Nat} (d : decode cc pc = .ok (.ifCond .gt off, 3)) (ht : (pc : Int) + off = (tgt : Int)) (kt : 0 < a → nz_St κ q tb nL tgt lv st x) (kf : ¬ (0 < a) → nz_St κ q tb nL (pc + 3) lv st x) : nz_St κ q tb nL pc lv (.int a :: st) x := fun H locs ls hP hD hS hl => lv_if_gt E.hx E.hb d ht (fun h => kt h H locs ls hP hD hS hl) (fun h => kf h H locs ls hP hD hS hl)
theorem nz_icmp_gt (E : nz_Env κ q tb nL cc own Ts rm) {a b : Int32} {off : Int} {tgt : Nat} (d : decode cc pc = .ok (.if_icmp .gt off, 3)) (ht : (pc : Int) + off = (tgt : Int)) (kt : b < a → nz_St κ q tb nL tgt lv st x) (kf : ¬ (b < a) → nz_St κ q tb nL (pc + 3) lv st x) : nz_St κ q tb nL pc lv (.int b :: .int a :: st) x := fun H locs ls hP hD hS hl => lv_icmp_gt E.hx E.hb d ht (fun h => kt h H locs ls hP hD hS hl) (fun h => kf h H locs ls hP hD hS hl)
theorem nz_if_le (E : nz_Env κ q tb nL cc own Ts rm) {a : Int32} {off : Int} {tgt : Nat} (d : decode cc pc = .ok (.ifCond .le off, 3)) (ht : (pc : Int) + off = (tgt : Int)) (kt : a ≤ 0 → nz_St κ q tb nL tgt lv st x) (kf : ¬ (a ≤ 0) → nz_St κ q tb nL (pc + 3) lv st x) : nz_St κ q tb nL pc lv (.int a :: st) x := fun H locs ls hP hD hS hl => lv_if_le E.hx E.hb d ht (fun h => kt h H locs ls hP hD hS hl) (fun h => kf h H locs ls hP hD hS hl)
theorem nz_icmp_le (E : nz_Env κ q tb nL cc own Ts rm) {a b : Int32} {off : Int} {tgt : Nat} (d : decode cc pc = .ok (.if_icmp .le off, 3)) (ht : (pc : Int) + off = (tgt : Int)) (kt : a ≤ b → nz_St κ q tb nL tgt lv st x) (kf : ¬ (a ≤ b) → nz_St κ q tb nL (pc + 3) lv st x) : nz_St κ q tb nL pc lv (.int b :: .int a :: st) x := fun H locs ls hP hD hS hl => lv_icmp_le E.hx E.hb d ht (fun h => kt h H locs ls hP hD hS hl) (fun h => kf h H locs ls hP hD hS hl)
theorem nz_tabOut (E : nz_Env κ q tb nL cc own Ts rm) {dflt lo hi : Int} {offs : Array Int} {len : Nat} {a : Int32} {tgt : Nat} (d : decode cc pc = .ok (.tableswitch dflt lo hi offs, len)) (h : a.toInt < lo ∨ hi < a.toInt) (ht : (pc : Int) + dflt = (tgt : Int)) (k : nz_St κ q tb nL tgt lv st x) : nz_St κ q tb nL pc lv (.int a :: st) x := fun H locs ls hP hD hS hl => lv_tableOut E.hx E.hb d h ht (k H locs ls hP hD hS hl)
theorem nz_tabIn (E : nz_Env κ q tb nL cc own Ts rm) {dflt lo hi : Int} {offs : Array Int} {len : Nat} {a : Int32} {off : Int} {tgt : Nat} (d : decode cc pc = .ok (.tableswitch dflt lo hi offs, len)) (h1 : ¬ a.toInt < lo) (h2 : ¬ hi < a.toInt) (ho : offs[(a.toInt - lo).toNat]? = some off) (ht : (pc : Int) + off = (tgt : Int)) (k : nz_St κ q tb nL tgt lv st x) : nz_St κ q tb nL pc lv (.int a :: st) x := fun H locs ls hP hD hS hl => lv_tableIn E.hx E.hb d h1 h2 ho ht (k H locs ls hP hD hS hl)
theorem nz_lookup (E : nz_Env κ q tb nL cc own Ts rm) {dflt : Int} {ps : Array (Int × Int)} {len : Nat} {a : Int32} {off : Int} {tgt : Nat} (d : decode cc pc = .ok (.lookupswitch dflt ps, len)) (hp : (ps.toList.zip (ps.toList.drop 1)).all (fun (a, next) => a.1 < next.1) = true) (ho : Op.lookupswitch.offset ps.toList dflt a.toInt = off) (ht : (pc : Int) + off = (tgt : Int)) (k : nz_St κ q tb nL tgt lv st x) : nz_St κ q tb nL pc lv (.int a :: st) x := fun H locs ls hP hD hS hl => lv_lookup E.hx E.hb d hp ho ht (k H locs ls hP hD hS hl)
theorem nz_ldcw (E : nz_Env κ q tb nL cc own Ts rm) {index : Nat} {v : Int32} (hc : Cond.constant own index v ∈ Ts) (d : decode cc pc = .ok (.ldc_w index, 3)) (k : nz_St κ q tb nL (pc + 3) lv (.int v :: st) x) : nz_St κ q tb nL pc lv st x := fun H locs ls hP hD hS hl => lv_ldcw E.hx E.hb E.hown (E.hts _ hc) d (k H locs ls hP hD hS hl)
theorem nz_ldc2 (E : nz_Env κ q tb nL cc own Ts rm) {index : Nat} {v : Int64} (hc : Cond.constantLong own index v ∈ Ts) (d : decode cc pc = .ok (.ldc2_w index, 3)) (k : nz_St κ q tb nL (pc + 3) lv (.long v :: st) x) : nz_St κ q tb nL pc lv st x := fun H locs ls hP hD hS hl => lv_ldc2 E.hx E.hb E.hown (E.hts _ hc) d (k H locs ls hP hD hS hl)
theorem nz_iald (E : nz_Env κ q tb nL cc own Ts rm) {c n : Nat} {i : Int32} (ht : tb[c]? = some (.inl (n, false))) (hin : nz_in i n = true) (d : decode cc pc = .ok (.iaload, 1)) (k : nz_St κ q tb nL (pc + 1) lv (.int (x.1 c i.toNatClampNeg) :: st) x) : nz_St κ q tb nL pc lv (.int i :: .ref (q c) :: st) x := fun H locs ls hP hD hS hl => va_iald E.hx E.hb E.hK hP c 0 (nz_at ht) rfl (nz_in_vp hin) d (k H locs ls hP hD hS hl)
theorem nz_zald (E : nz_Env κ q tb nL cc own Ts rm) {c n : Nat} {i : Int32} (ht : tb[c]? = some (.inl (n, true))) (hin : nz_in i n = true) (d : decode cc pc = .ok (.baload, 1)) (k : nz_St κ q tb nL (pc + 1) lv (.int (x.1 c i.toNatClampNeg) :: st) x) : nz_St κ q tb nL pc lv (.int i :: .ref (q c) :: st) x := fun H locs ls hP hD hS hl => va_zald E.hx E.hb E.hK hP c 1 (nz_at ht) rfl (nz_in_vp hin) d (k H locs ls hP hD hS hl)
theorem nz_iast (E : nz_Env κ q tb nL cc own Ts rm) {c n : Nat} {i v : Int32} (ht : tb[c]? = some (.inl (n, false))) (hin : nz_in i n = true) (d : decode cc pc = .ok (.iastore, 1)) (k : nz_St κ q tb nL (pc + 1) lv st (nz_put x c i.toNatClampNeg v)) : nz_St κ q tb nL pc lv (.int v :: .int i :: .ref (q c) :: st) x := fun H locs ls hP hD hS hl => va_iast E.hx E.hb E.hK hP hD hS c 0 (nz_at ht) rfl (nz_in_vp hin) d (fun H1 locs1 hP1 hD1 hS1 => k H1 locs1 ls (by rw [nz_setA ht] at hP1; exact hP1) (by rw [nz_setA ht] at hD1; exact hD1) hS1 hl)
theorem nz_zast (E : nz_Env κ q tb nL cc own Ts rm) {c n : Nat} {i v : Int32} (ht : tb[c]? = some (.inl (n, true))) (hin : nz_in i n = true) (hv : vp_nar .boolean v = v) (d : decode cc pc = .ok (.bastore, 1)) (k : nz_St κ q tb nL (pc + 1) lv st (nz_put x c i.toNatClampNeg v)) : nz_St κ q tb nL pc lv (.int v :: .int i :: .ref (q c) :: st) x := fun H locs ls hP hD hS hl => va_zast E.hx E.hb E.hK hP hD hS c 1 (nz_at ht) rfl (nz_in_vp hin) d (fun H1 locs1 hP1 hD1 hS1 => k H1 locs1 ls (by rw [hv, nz_setZ ht] at hP1; exact hP1) (by rw [hv, nz_setZ ht] at hD1; exact hD1) hS1 hl)
theorem nz_alen (E : nz_Env κ q tb nL cc own Ts rm) {c n : Nat} (ht : tb[c]? = some (.inl (n, false))) (d : decode cc pc = .ok (.arraylength, 1)) (k : nz_St κ q tb nL (pc + 1) lv (.int (nI n) :: st) x) : nz_St κ q tb nL pc lv (.ref (q c) :: st) x := fun H locs ls hP hD hS hl => va_alen E.hx E.hb E.hK hP c 0 (nz_at ht) (ty := .int) rfl rfl d (k H locs ls hP hD hS hl)
theorem nz_getI (E : nz_Env κ q tb nL cc own Ts rm) {ci c kf index : Nat} {ref C : String} {T : u_T} {N : Nat} {fs : List (Bool ⊕ Nat)} (ht : tb[c]? = some (.inr (ci, fs))) (hc : nz_cl[ci]? = some (C, T, N)) (hin : ∀ w ∈ u_ws C T N, w ∈ Ts) (hk : kf < N) (hl0 : Cond.fieldLink own index ref (T kf).2.1 (T kf).2.2.1 ∈ Ts) (hrf : (T kf).1 = ref) (hf : fs[kf]? = some (.inl false)) (d : decode cc pc = .ok (.getfield index, 3)) (k : nz_St κ q tb nL (pc + 3) lv (.int (x.1 c kf) :: st) x) : nz_St κ q tb nL pc lv (.ref (q c) :: st) x := fun H locs ls hP hD hS hl => va_get E.hx E.hb E.hts hin E.hown E.hK hP c (nz_at ht) hc kf hk (E.hts _ hl0) (fun _ h9 => hrf ▸ h9) (v := .int (x.1 c kf)) (by show (nz_fs q x c 0 fs)[kf]? = _; rw [nz_fs_get, hf]; simp [nz_fv]) d (k H locs ls hP hD hS hl)
theorem nz_getL (E : nz_Env κ q tb nL cc own Ts rm) {ci c kf index : Nat} {ref C : String} {T : u_T} {N : Nat} {fs : List (Bool ⊕ Nat)} (ht : tb[c]? = some (.inr (ci, fs))) (hc : nz_cl[ci]? = some (C, T, N)) (hin : ∀ w ∈ u_ws C T N, w ∈ Ts) (hk : kf < N) (hl0 : Cond.fieldLink own index ref (T kf).2.1 (T kf).2.2.1 ∈ Ts) (hrf : (T kf).1 = ref) (hf : fs[kf]? = some (.inl true)) (d : decode cc pc = .ok (.getfield index, 3)) (k : nz_St κ q tb nL (pc + 3) lv (.long x.2 :: st) x) : nz_St κ q tb nL pc lv (.ref (q c) :: st) x := fun H locs ls hP hD hS hl => va_get E.hx E.hb E.hts hin E.hown E.hK hP c (nz_at ht) hc kf hk (E.hts _ hl0) (fun _ h9 => hrf ▸ h9) (v := .long x.2) (by show (nz_fs q x c 0 fs)[kf]? = _; rw [nz_fs_get, hf]; simp [nz_fv]) d (k H locs ls hP hD hS hl)
theorem nz_getR (E : nz_Env κ q tb nL cc own Ts rm) {ci c kf index : Nat} {ref C : String} {T : u_T} {N : Nat} {fs : List (Bool ⊕ Nat)} {c2 : Nat} (ht : tb[c]? = some (.inr (ci, fs))) (hc : nz_cl[ci]? = some (C, T, N)) (hin : ∀ w ∈ u_ws C T N, w ∈ Ts) (hk : kf < N) (hl0 : Cond.fieldLink own index ref (T kf).2.1 (T kf).2.2.1 ∈ Ts) (hrf : (T kf).1 = ref) (hf : fs[kf]? = some (.inr c2)) (d : decode cc pc = .ok (.getfield index, 3)) (k : nz_St κ q tb nL (pc + 3) lv (.ref (q c2) :: st) x) : nz_St κ q tb nL pc lv (.ref (q c) :: st) x := fun H locs ls hP hD hS hl => va_get E.hx E.hb E.hts hin E.hown E.hK hP c (nz_at ht) hc kf hk (E.hts _ hl0) (fun _ h9 => hrf ▸ h9) (v := .ref (q c2)) (by show (nz_fs q x c 0 fs)[kf]? = _; rw [nz_fs_get, hf]; simp [nz_fv]) d (k H locs ls hP hD hS hl)
theorem nz_getNI (E : nz_Env κ q tb nL cc own Ts rm) {ci c kf index : Nat} {ref C : String} {T : u_T} {N : Nat} {fs : List (Bool ⊕ Nat)} {host : String} (ht : tb[c]? = some (.inr (ci, fs))) (hc : nz_cl[ci]? = some (C, T, N)) (hin : ∀ w ∈ u_ws C T N, w ∈ Ts) (hk : kf < N) (hl0 : Cond.fieldLinkNest own index ref (T kf).2.1 (T kf).2.2.1 host ∈ nz_nest) (hrf : (T kf).1 = ref) (hf : fs[kf]? = some (.inl false)) (d : decode cc pc = .ok (.getfield index, 3)) (k : nz_St κ q tb nL (pc + 3) lv (.int (x.1 c kf) :: st) x) : nz_St κ q tb nL pc lv (.ref (q c) :: st) x := fun H locs ls hP hD hS hl => va_getN E.hx E.hb E.hts hin E.hown E.hK hP c (nz_at ht) hc kf hk (E.hN.use hl0 _) (fun _ h9 => hrf ▸ h9) (v := .int (x.1 c kf)) (by show (nz_fs q x c 0 fs)[kf]? = _; rw [nz_fs_get, hf]; simp [nz_fv]) d (k H locs ls hP hD hS hl)
theorem nz_getNR (E : nz_Env κ q tb nL cc own Ts rm) {ci c kf index : Nat} {ref C : String} {T : u_T} {N : Nat} {fs : List (Bool ⊕ Nat)} {host : String} {c2 : Nat} (ht : tb[c]? = some (.inr (ci, fs))) (hc : nz_cl[ci]? = some (C, T, N)) (hin : ∀ w ∈ u_ws C T N, w ∈ Ts) (hk : kf < N) (hl0 : Cond.fieldLinkNest own index ref (T kf).2.1 (T kf).2.2.1 host ∈ nz_nest) (hrf : (T kf).1 = ref) (hf : fs[kf]? = some (.inr c2)) (d : decode cc pc = .ok (.getfield index, 3)) (k : nz_St κ q tb nL (pc + 3) lv (.ref (q c2) :: st) x) : nz_St κ q tb nL pc lv (.ref (q c) :: st) x := fun H locs ls hP hD hS hl => va_getN E.hx E.hb E.hts hin E.hown E.hK hP c (nz_at ht) hc kf hk (E.hN.use hl0 _) (fun _ h9 => hrf ▸ h9) (v := .ref (q c2)) (by show (nz_fs q x c 0 fs)[kf]? = _; rw [nz_fs_get, hf]; simp [nz_fv]) d (k H locs ls hP hD hS hl)
theorem nz_putI (E : nz_Env κ q tb nL cc own Ts rm) {ci c kf index : Nat} {ref C : String} {T : u_T} {N : Nat} {fs : List (Bool ⊕ Nat)} {v : Int32} (ht : tb[c]? = some (.inr (ci, fs))) (hc : nz_cl[ci]? = some (C, T, N)) (hin : ∀ w ∈ u_ws C T N, w ∈ Ts) (hk : kf < N) (hl0 : Cond.fieldLink own index ref (T kf).2.1 (T kf).2.2.1 ∈ Ts) (hrf : (T kf).1 = ref) (ty0 : Nat → FieldType) (hty : ∀ k, k < N → parseFieldDescriptor (T k).2.2.1 = some (ty0 k)) (hnm : ∀ a, a < N → ∀ b, b < N → a ≠ b → (T a).2.1 ≠ (T b).2.1) (hfin : (T kf).2.2.2 = false) (hdsc : parseFieldDescriptor (T kf).2.2.1 = some .int) (hf : fs[kf]? = some (.inl false)) (d : decode cc pc = .ok (.putfield index, 3)) (k : nz_St κ q tb nL (pc + 3) lv st (nz_put x c kf v)) : nz_St κ q tb nL pc lv (.int v :: .ref (q c) :: st) x := fun H locs ls hP hD hS hl => va_put E.hx E.hb E.hts hin ty0 hty hnm E.hown E.hK hP hD hS c (nz_at ht) hc kf hk (E.hts _ hl0) (fun _ h9 => hrf ▸ h9) hfin (ty := .int) (v := .int v) hdsc rfl rfl (by show kf < (nz_fs q x c 0 fs).length; rw [nz_fs_len]; exact (List.getElem?_eq_some_iff.mp hf).1) d (fun H1 locs1 hP1 hD1 hS1 => k H1 locs1 ls (by have hP1 : va_P κ.2.2.2.1 nz_cl ((nz_W κ.2.2.2 q x tb).set c (q c, .inr (ci, (nz_fs q x c 0 fs).set kf (.int v)))) H1 := hP1; rw [nz_setF ht hf] at hP1; exact hP1) (by have hD1 : va_D (nz_A tb q κ.1.2.2.2.2.heap.size) ((nz_W κ.2.2.2 q x tb).set c (q c, .inr (ci, (nz_fs q x c 0 fs).set kf (.int v)))) := hD1; rw [nz_setF ht hf] at hD1; exact hD1) hS1 hl)
theorem nz_putL (E : nz_Env κ q tb nL cc own Ts rm) {ci c kf index : Nat} {ref C : String} {T : u_T} {N : Nat} {fs : List (Bool ⊕ Nat)} {v : Int64} (ht : tb[c]? = some (.inr (ci, fs))) (hc : nz_cl[ci]? = some (C, T, N)) (hin : ∀ w ∈ u_ws C T N, w ∈ Ts) (hk : kf < N) (hl0 : Cond.fieldLink own index ref (T kf).2.1 (T kf).2.2.1 ∈ Ts) (hrf : (T kf).1 = ref) (ty0 : Nat → FieldType) (hty : ∀ k, k < N → parseFieldDescriptor (T k).2.2.1 = some (ty0 k)) (hnm : ∀ a, a < N → ∀ b, b < N → a ≠ b → (T a).2.1 ≠ (T b).2.1) (hfin : (T kf).2.2.2 = false) (hdsc : parseFieldDescriptor (T kf).2.2.1 = some .long) (hf : fs[kf]? = some (.inl true)) (h1 : ∀ j, fs[j]? = some (.inl true) → j = kf) (hn : nz_nol tb c = true) (d : decode cc pc = .ok (.putfield index, 3)) (k : nz_St κ q tb nL (pc + 3) lv st (nz_lng x v)) : nz_St κ q tb nL pc lv (.long v :: .ref (q c) :: st) x := fun H locs ls hP hD hS hl => va_put E.hx E.hb E.hts hin ty0 hty hnm E.hown E.hK hP hD hS c (nz_at ht) hc kf hk (E.hts _ hl0) (fun _ h9 => hrf ▸ h9) hfin (ty := .long) (v := .long v) hdsc rfl rfl (by show kf < (nz_fs q x c 0 fs).length; rw [nz_fs_len]; exact (List.getElem?_eq_some_iff.mp hf).1) d (fun H1 locs1 hP1 hD1 hS1 => k H1 locs1 ls (by have hP1 : va_P κ.2.2.2.1 nz_cl ((nz_W κ.2.2.2 q x tb).set c (q c, .inr (ci, (nz_fs q x c 0 fs).set kf (.long v)))) H1 := hP1; rw [nz_setL ht hf h1 hn] at hP1; exact hP1) (by have hD1 : va_D (nz_A tb q κ.1.2.2.2.2.heap.size) ((nz_W κ.2.2.2 q x tb).set c (q c, .inr (ci, (nz_fs q x c 0 fs).set kf (.long v)))) := hD1; rw [nz_setL ht hf h1 hn] at hD1; exact hD1) hS1 hl)
theorem nz_putNI (E : nz_Env κ q tb nL cc own Ts rm) {ci c kf index : Nat} {ref C : String} {T : u_T} {N : Nat} {fs : List (Bool ⊕ Nat)} {host : String} {v : Int32} (ht : tb[c]? = some (.inr (ci, fs))) (hc : nz_cl[ci]? = some (C, T, N)) (hin : ∀ w ∈ u_ws C T N, w ∈ Ts) (hk : kf < N) (hl0 : Cond.fieldLinkNest own index ref (T kf).2.1 (T kf).2.2.1 host ∈ nz_nest) (hrf : (T kf).1 = ref) (ty0 : Nat → FieldType) (hty : ∀ k, k < N → parseFieldDescriptor (T k).2.2.1 = some (ty0 k)) (hnm : ∀ a, a < N → ∀ b, b < N → a ≠ b → (T a).2.1 ≠ (T b).2.1) (hfin : (T kf).2.2.2 = false) (hdsc : parseFieldDescriptor (T kf).2.2.1 = some .int) (hf : fs[kf]? = some (.inl false)) (d : decode cc pc = .ok (.putfield index, 3)) (k : nz_St κ q tb nL (pc + 3) lv st (nz_put x c kf v)) : nz_St κ q tb nL pc lv (.int v :: .ref (q c) :: st) x := fun H locs ls hP hD hS hl => va_putN E.hx E.hb E.hts hin ty0 hty hnm E.hown E.hK hP hD hS c (nz_at ht) hc kf hk (E.hN.use hl0 _) (fun _ h9 => hrf ▸ h9) hfin (ty := .int) (v := .int v) hdsc rfl rfl (by show kf < (nz_fs q x c 0 fs).length; rw [nz_fs_len]; exact (List.getElem?_eq_some_iff.mp hf).1) d (fun H1 locs1 hP1 hD1 hS1 => k H1 locs1 ls (by have hP1 : va_P κ.2.2.2.1 nz_cl ((nz_W κ.2.2.2 q x tb).set c (q c, .inr (ci, (nz_fs q x c 0 fs).set kf (.int v)))) H1 := hP1; rw [nz_setF ht hf] at hP1; exact hP1) (by have hD1 : va_D (nz_A tb q κ.1.2.2.2.2.heap.size) ((nz_W κ.2.2.2 q x tb).set c (q c, .inr (ci, (nz_fs q x c 0 fs).set kf (.int v)))) := hD1; rw [nz_setF ht hf] at hD1; exact hD1) hS1 hl)
end NZ
/-! CONTRACTS -/
def nz_Pre (w : nz_O) (q : Nat → Nat) (tb : List nz_K) (x : nz_S) (sz : Nat) : State → Prop := fun U => U.heap.size = sz ∧ va_P w.1 nz_cl (nz_W w q x tb) U.heap ∧ va_K w.1 nz_cl (nz_ty w) U ∧ va_D (fun _ => True) (nz_W w q x tb) ∧ nz_Nst U
def nz_Pos (w : nz_O) (q : Nat → Nat) (tb : List nz_K) (x : nz_S) (sz : Nat) : State → Prop := fun t => va_P w.1 nz_cl (nz_W w q x tb) t.heap ∧ va_K w.1 nz_cl (nz_ty w) t ∧ va_D (nz_A tb q sz) (nz_W w q x tb)
abbrev nz_QI (w : nz_O) (q : Nat → Nat) (tb : List nz_K) (sz : Nat) (o : Int32 × nz_S) : Array Value → State → Outcome → State → Prop := va_Qi (fun r (_ : Unit) => r = o.1) (fun _ t => nz_Pos w q tb o.2 sz t) (nz_A tb q sz)
abbrev nz_QL (w : nz_O) (q : Nat → Nat) (tb : List nz_K) (sz : Nat) (o : Int64 × nz_S) : Array Value → State → Outcome → State → Prop := va_Ql (fun r (_ : Unit) => r = o.1) (fun _ t => nz_Pos w q tb o.2 sz t) (nz_A tb q sz)
abbrev nz_QV (w : nz_O) (q : Nat → Nat) (tb : List nz_K) (sz : Nat) (o : Unit × nz_S) : Array Value → State → Outcome → State → Prop := va_Qv (fun (_ : Unit) => True) (fun _ t => nz_Pos w q tb o.2 sz t) (nz_A tb q sz)
def nz_MI (l : Launch) (y : MethodName) (ws : List Cond) (rm : Room) (w : nz_O) (q : Nat → Nat) (tb : List nz_K) (av : List Value) (x : nz_S) (o : Int32 × nz_S) : Prop := ∀ sz, Met l y ws rm (va_Pc av (nz_Pre w q tb x sz)) (nz_QI w q tb sz o) 0 0 (nz_A tb q sz)
def nz_ML (l : Launch) (y : MethodName) (ws : List Cond) (rm : Room) (w : nz_O) (q : Nat → Nat) (tb : List nz_K) (av : List Value) (x : nz_S) (o : Int64 × nz_S) : Prop := ∀ sz, Met l y ws rm (va_Pc av (nz_Pre w q tb x sz)) (nz_QL w q tb sz o) 0 0 (nz_A tb q sz)
def nz_MV (l : Launch) (y : MethodName) (ws : List Cond) (rm : Room) (w : nz_O) (q : Nat → Nat) (tb : List nz_K) (av : List Value) (x : nz_S) (o : Unit × nz_S) : Prop := ∀ sz, Met l y ws rm (va_Pc av (nz_Pre w q tb x sz)) (nz_QV w q tb sz o) 0 0 (nz_A tb q sz)
theorem nz_blind {w : nz_O} {q : Nat → Nat} {tb : List nz_K} {x : nz_S} {sz : Nat} {av : List Value} : FrameBlind (va_Pc av (nz_Pre w q tb x sz)) := fun a U g mk h => by
  obtain ⟨q0, q1, qP, qK, qD, qN⟩ := h
  exact ⟨q0, q1, qP, va_K.moved (u := U) (U := U.calling g mk a) (Vm.Alike.refl U.vm) qK, qD, nz_Nst.same (s := U) (U := U.calling g mk a) rfl qN⟩
theorem nz_A_addr {w : nz_O} {q : Nat → Nat} {tb : List nz_K} {x : nz_S} {sz k : Nat} {e : Nat × va_E} (h : (nz_W w q x tb)[k]? = some e) : nz_A tb q sz e.1 := by
  rw [nz_Wl_get] at h
  cases hd : tb[k]? with
  | none => rw [hd] at h; cases h
  | some d =>
    rw [hd] at h
    cases h
    exact Or.inl ⟨k, (List.getElem?_eq_some_iff.mp hd).1, by simp⟩
theorem nz_A_mono {tb : List nz_K} {q : Nat → Nat} {a b : Nat} (h : a ≤ b) {z : Nat} (hz : nz_A tb q b z) : nz_A tb q a z := by
  rcases hz with hz | hz
  · exact Or.inl hz
  · exact Or.inr (Nat.le_trans h hz)
section NZC
variable {κ : nz_C} {q : Nat → Nat} {tb : List nz_K} {nL pc : Nat} {cc : ByteArray} {own : String} {Ts : List Cond} {rm : Room} {lv : List (Nat × Value)} {st : List Value} {x x1 : nz_S}
variable {y : MethodName} {ws ws' : List Cond} {rm1 : Room} {bytes : ByteArray} {maxL index n : Nat} {ret : Option FieldType} {As rest : List Value}
theorem nz_prePay {w : nz_O} {s : State} {av : List Value} {H : Heap} {locs : List Loc} (hw : w = κ.2.2.2) (hs : s = κ.1.2.2.2.2) (hK : va_K w.1 nz_cl (nz_ty w) s) (hP : va_P w.1 nz_cl (nz_W w q x tb) H) (hD : va_D (nz_A tb q s.heap.size) (nz_W w q x tb)) (hN : nz_Nst s) : ∀ U : State, U.heap = H → s.WarmedH U.vm → va_Pc av (nz_Pre w q tb x H.size) av.toArray U := fun U hU hW => ⟨rfl, by rw [hU], by rw [hU]; exact hP, va_K.moved hW.alike hK, hD.weaken (fun _ _ _ _ => trivial), hN.warm hW⟩
theorem nz_back {w : nz_O} {s t : State} {H H1 : Heap} {locs1 : List Loc} (ht : t.heap = H1) (hz : s.heap.size ≤ H.size) (hB : nz_Pos w q tb x1 H.size t) : va_P w.1 nz_cl (nz_W w q x1 tb) H1 ∧ va_D (nz_A tb q s.heap.size) (nz_W w q x1 tb) := ⟨by rw [← ht]; exact hB.1, hB.2.2.weaken (fun _ _ _ h => nz_A_mono hz h)⟩
theorem nz_callVI (E : nz_Env κ q tb nL cc own Ts rm) {r : Int32} {c0 ci : Nat} {C : String} {T : u_T} {N : Nat} {fs : List (Bool ⊕ Nat)} (ht0 : tb[c0]? = some (.inr (ci, fs))) (hcl : nz_cl[ci]? = some (C, T, N)) (hM : nz_MI κ.1.2.1 y ws rm1 κ.2.2.2 q tb (.ref (q c0) :: As) x (r, x1)) (cw : CallW rm κ.1.2.2.2.2 κ.2.1.2.1 own C index y bytes maxL ret ws rm1 0 0 n) (hn : As.length = n) (hst : st = As.reverse ++ .ref (q c0) :: rest) (hw : (rest.map fun v => v.category).sum ≤ 8) (d : decode cc pc = .ok (.invokevirtual index, 3)) (k : nz_St κ q tb nL (pc + 3) lv (.int r :: rest) x1) : nz_St κ q tb nL pc lv st x := fun H locs ls hP hD hS hl => by
  refine va_calli (va_runV (As := As) (rest := rest) ⟨E.hx, E.hb, E.hml, E.hown, E.hts⟩ (hM H.size) (by rw [E.hR]; exact cw) ⟨nz_blind, va_recv E.hK hP hcl (nz_at ht0), nz_prePay (κ := κ) (locs := locs) rfl rfl E.hK hP hD E.hN⟩ rfl hn hl.1 hst (lv_room hw) d ⟨Nat.zero_le _, Nat.zero_le _⟩) hS (fun z _ h => nz_A_mono hS.1 h) (fun z h => nz_A_mono hS.1 h) (fun r2 u t H1 locs1 ht hvm hp hB hz hk hS1 => by
    subst hp
    obtain ⟨h1, h2⟩ := nz_back (s := κ.1.2.2.2.2) (locs1 := locs1) ht hS.1 hB
    exact k H1 locs1 ls h1 h2 hS1 hl)
theorem nz_callSI (E : nz_Env κ q tb nL cc own Ts rm) {r : Int32} (hM : nz_MI κ.1.2.1 y ws rm1 κ.2.2.2 q tb As x (r, x1)) (cw : CallB rm κ.1.2.2.2.2 κ.2.1.2.1 own index y bytes maxL ret ws rm1 0 0 n ∧ (Cond.static y).before κ.2.1.2.1 κ.1.2.2.2.2 = true) (hn : As.length = n) (hst : st = As.reverse ++ rest) (hw : (rest.map fun v => v.category).sum ≤ 8) (d : decode cc pc = .ok (.invokestatic index, 3)) (k : nz_St κ q tb nL (pc + 3) lv (.int r :: rest) x1) : nz_St κ q tb nL pc lv st x := fun H locs ls hP hD hS hl => by
  refine va_calli (va_runS (As := As) (rest := rest) ⟨E.hx, E.hb, E.hml, E.hown, E.hts⟩ (hM H.size) (by rw [E.hR]; exact cw) ⟨nz_blind, nz_prePay (κ := κ) (locs := locs) rfl rfl E.hK hP hD E.hN⟩ rfl hn hl.1 hst (lv_room hw) d ⟨Nat.zero_le _, Nat.zero_le _⟩) hS (fun z _ h => nz_A_mono hS.1 h) (fun z h => nz_A_mono hS.1 h) (fun r2 u t H1 locs1 ht hvm hp hB hz hk hS1 => by
    subst hp
    obtain ⟨h1, h2⟩ := nz_back (s := κ.1.2.2.2.2) (locs1 := locs1) ht hS.1 hB
    exact k H1 locs1 ls h1 h2 hS1 hl)
theorem nz_callVL (E : nz_Env κ q tb nL cc own Ts rm) {r : Int64} {c0 ci : Nat} {C : String} {T : u_T} {N : Nat} {fs : List (Bool ⊕ Nat)} (ht0 : tb[c0]? = some (.inr (ci, fs))) (hcl : nz_cl[ci]? = some (C, T, N)) (hM : nz_ML κ.1.2.1 y ws rm1 κ.2.2.2 q tb (.ref (q c0) :: As) x (r, x1)) (cw : CallW rm κ.1.2.2.2.2 κ.2.1.2.1 own C index y bytes maxL ret ws rm1 0 0 n) (hn : As.length = n) (hst : st = As.reverse ++ .ref (q c0) :: rest) (hw : (rest.map fun v => v.category).sum ≤ 8) (d : decode cc pc = .ok (.invokevirtual index, 3)) (k : nz_St κ q tb nL (pc + 3) lv (.long r :: rest) x1) : nz_St κ q tb nL pc lv st x := fun H locs ls hP hD hS hl => by
  refine va_calll (va_runV (As := As) (rest := rest) ⟨E.hx, E.hb, E.hml, E.hown, E.hts⟩ (hM H.size) (by rw [E.hR]; exact cw) ⟨nz_blind, va_recv E.hK hP hcl (nz_at ht0), nz_prePay (κ := κ) (locs := locs) rfl rfl E.hK hP hD E.hN⟩ rfl hn hl.1 hst (lv_room hw) d ⟨Nat.zero_le _, Nat.zero_le _⟩) hS (fun z _ h => nz_A_mono hS.1 h) (fun z h => nz_A_mono hS.1 h) (fun r2 u t H1 locs1 ht hvm hp hB hz hk hS1 => by
    subst hp
    obtain ⟨h1, h2⟩ := nz_back (s := κ.1.2.2.2.2) (locs1 := locs1) ht hS.1 hB
    exact k H1 locs1 ls h1 h2 hS1 hl)
theorem nz_callSL (E : nz_Env κ q tb nL cc own Ts rm) {r : Int64} (hM : nz_ML κ.1.2.1 y ws rm1 κ.2.2.2 q tb As x (r, x1)) (cw : CallB rm κ.1.2.2.2.2 κ.2.1.2.1 own index y bytes maxL ret ws rm1 0 0 n ∧ (Cond.static y).before κ.2.1.2.1 κ.1.2.2.2.2 = true) (hn : As.length = n) (hst : st = As.reverse ++ rest) (hw : (rest.map fun v => v.category).sum ≤ 8) (d : decode cc pc = .ok (.invokestatic index, 3)) (k : nz_St κ q tb nL (pc + 3) lv (.long r :: rest) x1) : nz_St κ q tb nL pc lv st x := fun H locs ls hP hD hS hl => by
  refine va_calll (va_runS (As := As) (rest := rest) ⟨E.hx, E.hb, E.hml, E.hown, E.hts⟩ (hM H.size) (by rw [E.hR]; exact cw) ⟨nz_blind, nz_prePay (κ := κ) (locs := locs) rfl rfl E.hK hP hD E.hN⟩ rfl hn hl.1 hst (lv_room hw) d ⟨Nat.zero_le _, Nat.zero_le _⟩) hS (fun z _ h => nz_A_mono hS.1 h) (fun z h => nz_A_mono hS.1 h) (fun r2 u t H1 locs1 ht hvm hp hB hz hk hS1 => by
    subst hp
    obtain ⟨h1, h2⟩ := nz_back (s := κ.1.2.2.2.2) (locs1 := locs1) ht hS.1 hB
    exact k H1 locs1 ls h1 h2 hS1 hl)
theorem nz_callVV (E : nz_Env κ q tb nL cc own Ts rm) {r : Unit} {c0 ci : Nat} {C : String} {T : u_T} {N : Nat} {fs : List (Bool ⊕ Nat)} (ht0 : tb[c0]? = some (.inr (ci, fs))) (hcl : nz_cl[ci]? = some (C, T, N)) (hM : nz_MV κ.1.2.1 y ws rm1 κ.2.2.2 q tb (.ref (q c0) :: As) x (r, x1)) (cw : CallW rm κ.1.2.2.2.2 κ.2.1.2.1 own C index y bytes maxL ret ws rm1 0 0 n) (hn : As.length = n) (hst : st = As.reverse ++ .ref (q c0) :: rest) (hw : (rest.map fun v => v.category).sum ≤ 8) (d : decode cc pc = .ok (.invokevirtual index, 3)) (k : nz_St κ q tb nL (pc + 3) lv (rest) x1) : nz_St κ q tb nL pc lv st x := fun H locs ls hP hD hS hl => by
  refine va_callv (va_runV (As := As) (rest := rest) ⟨E.hx, E.hb, E.hml, E.hown, E.hts⟩ (hM H.size) (by rw [E.hR]; exact cw) ⟨nz_blind, va_recv E.hK hP hcl (nz_at ht0), nz_prePay (κ := κ) (locs := locs) rfl rfl E.hK hP hD E.hN⟩ rfl hn hl.1 hst (lv_room hw) d ⟨Nat.zero_le _, Nat.zero_le _⟩) hS (fun z _ h => nz_A_mono hS.1 h) (fun z h => nz_A_mono hS.1 h) (fun u t H1 locs1 ht hvm hp hB hz hk hS1 => by
    obtain ⟨h1, h2⟩ := nz_back (s := κ.1.2.2.2.2) (locs1 := locs1) ht hS.1 hB
    exact k H1 locs1 ls h1 h2 hS1 hl)
theorem nz_callSV (E : nz_Env κ q tb nL cc own Ts rm) {r : Unit} (hM : nz_MV κ.1.2.1 y ws rm1 κ.2.2.2 q tb As x (r, x1)) (cw : CallB rm κ.1.2.2.2.2 κ.2.1.2.1 own index y bytes maxL ret ws rm1 0 0 n ∧ (Cond.static y).before κ.2.1.2.1 κ.1.2.2.2.2 = true) (hn : As.length = n) (hst : st = As.reverse ++ rest) (hw : (rest.map fun v => v.category).sum ≤ 8) (d : decode cc pc = .ok (.invokestatic index, 3)) (k : nz_St κ q tb nL (pc + 3) lv (rest) x1) : nz_St κ q tb nL pc lv st x := fun H locs ls hP hD hS hl => by
  refine va_callv (va_runS (As := As) (rest := rest) ⟨E.hx, E.hb, E.hml, E.hown, E.hts⟩ (hM H.size) (by rw [E.hR]; exact cw) ⟨nz_blind, nz_prePay (κ := κ) (locs := locs) rfl rfl E.hK hP hD E.hN⟩ rfl hn hl.1 hst (lv_room hw) d ⟨Nat.zero_le _, Nat.zero_le _⟩) hS (fun z _ h => nz_A_mono hS.1 h) (fun z h => nz_A_mono hS.1 h) (fun u t H1 locs1 ht hvm hp hB hz hk hS1 => by
    obtain ⟨h1, h2⟩ := nz_back (s := κ.1.2.2.2.2) (locs1 := locs1) ht hS.1 hB
    exact k H1 locs1 ls h1 h2 hS1 hl)
def nz_RI (κ : nz_C) (q : Nat → Nat) (tb : List nz_K) (ty : FieldType) (o : Int32 × nz_S) : Prop := κ.2.2.1 = MQ κ.2.1.2.2.1 (nz_QI κ.2.2.2 q tb κ.1.2.2.2.2.heap.size o) κ.2.1.2.1 κ.1.2.2.2.2 0 0 (nz_A tb q κ.1.2.2.2.2.heap.size) ∧ κ.2.1.2.2.2.1.sig.returnType = some ty
def nz_RL (κ : nz_C) (q : Nat → Nat) (tb : List nz_K) (o : Int64 × nz_S) : Prop := κ.2.2.1 = MQ κ.2.1.2.2.1 (nz_QL κ.2.2.2 q tb κ.1.2.2.2.2.heap.size o) κ.2.1.2.1 κ.1.2.2.2.2 0 0 (nz_A tb q κ.1.2.2.2.2.heap.size) ∧ κ.2.1.2.2.2.1.sig.returnType = some .long
def nz_RV (κ : nz_C) (q : Nat → Nat) (tb : List nz_K) (o : Unit × nz_S) : Prop := κ.2.2.1 = MQ κ.2.1.2.2.1 (nz_QV κ.2.2.2 q tb κ.1.2.2.2.2.heap.size o) κ.2.1.2.1 κ.1.2.2.2.2 0 0 (nz_A tb q κ.1.2.2.2.2.heap.size) ∧ κ.2.1.2.2.2.1.sig.returnType = none
theorem nz_pos {w : nz_O} {s : State} {H : Heap} (hK : va_K w.1 nz_cl (nz_ty w) s) (hP : va_P w.1 nz_cl (nz_W w q x tb) H) (hD : va_D (nz_A tb q s.heap.size) (nz_W w q x tb)) (t : State) (ht : t.heap = H) (hW : s.WarmedH t.vm) : nz_Pos w q tb x s.heap.size t := ⟨by rw [ht]; exact hP, va_K.moved hW.alike hK, hD⟩
theorem nz_iret (E : nz_Env κ q tb nL cc own Ts rm) {ty : FieldType} {o : Int32 × nz_S} (hR : nz_RI κ q tb ty o) {a : Int32} (hty : narrow ty (.int a) = .int a) (hf : some (a, x) = some o) (d : decode cc pc = .ok (.ireturn, 1)) : nz_St κ q tb nL pc lv [.int a] x := fun H locs ls hP hD hS hl => by
  cases hf
  rw [hR.1]
  exact W.zret E.hx E.hb hR.2 hty (fun t ht hW => ⟨⟨a, (), rfl, rfl, nz_pos E.hK hP hD t ht hW⟩, hS.F ht⟩) hS.2.2 d E.hlk
theorem nz_lret (E : nz_Env κ q tb nL cc own Ts rm) {o : Int64 × nz_S} (hR : nz_RL κ q tb o) {a : Int64} (hf : some (a, x) = some o) (d : decode cc pc = .ok (.lreturn, 1)) : nz_St κ q tb nL pc lv [.long a] x := fun H locs ls hP hD hS hl => by
  cases hf
  rw [hR.1]
  exact W.lret E.hx E.hb hR.2 (fun t ht hW => ⟨⟨a, (), rfl, rfl, nz_pos E.hK hP hD t ht hW⟩, hS.F ht⟩) hS.2.2 d E.hlk
theorem nz_vret (E : nz_Env κ q tb nL cc own Ts rm) {o : Unit × nz_S} (hR : nz_RV κ q tb o) (hf : some ((), x) = some o) (d : decode cc pc = .ok (.return_, 1)) : nz_St κ q tb nL pc lv [] x := fun H locs ls hP hD hS hl => by
  cases hf
  rw [hR.1]
  exact W.vret E.hx E.hb hR.2 (fun t ht hW => ⟨⟨(), rfl, trivial, nz_pos E.hK hP hD t ht hW⟩, hS.F ht⟩) hS.2.2 d E.hlk
end NZC
theorem nz_enterI {l : Launch} {y : MethodName} {ws ws' : List Cond} {rm : Room} {w : nz_O} {q : Nat → Nat} {tb : List nz_K} {av : List Value} {x : nz_S} {o : Int32 × nz_S} {cc : ByteArray} {maxL : Nat} {ty : FieldType} (hy : plainName y.cls = true) (hw : ws = Cond.code y cc maxL (some ty) :: ws') (hlen : (lg_sl av).length ≤ maxL) (hrc : rm.cells = 0) (hrs : rm.slots = 0)
    (body : ∀ κ : nz_C, nz_Env κ q tb maxL cc y.cls ws rm → κ.2.2.2 = w → κ.1.2.1 = l → nz_RI κ q tb ty o → nz_St κ q tb maxL 0 (lv_args 0 av) [] x) : nz_MI l y ws rm w q tb av x o := by
  intro sz
  refine Met.ofW (cc := cc) (maxL := maxL) (ret := some ty) hy hw ?_
  intro p e s m args below meth c s₁ B hml hv
  obtain ⟨rfl, hsz, hP, hK, hD0, hN0⟩ := hv
  subst hsz
  have hl := lv_entry av (n := maxL) hlen
  rw [lg_entry_eq]
  refine body ((p, l, e, (headSpec ws rm).room, s), (m, av.toArray, below, meth, c), (MQ below (nz_QI w q tb s.heap.size o) av.toArray s 0 0 (nz_A tb q s.heap.size), w)) ⟨B.exec, B.bytes, hml, findClass_of_methodNamed B.named, atoms_spec (ws := ws) B.pre, hK, B.notSynchronized, rfl, hrc, hrs, hN0⟩ rfl rfl ⟨rfl, B.returns⟩ s.heap [] _ hP (hD0.weaken (fun _ _ hk _ => nz_A_addr hk)) va_S.rf (nz_has_of hl)
theorem nz_enterL {l : Launch} {y : MethodName} {ws ws' : List Cond} {rm : Room} {w : nz_O} {q : Nat → Nat} {tb : List nz_K} {av : List Value} {x : nz_S} {o : Int64 × nz_S} {cc : ByteArray} {maxL : Nat} (hy : plainName y.cls = true) (hw : ws = Cond.code y cc maxL (some .long) :: ws') (hlen : (lg_sl av).length ≤ maxL) (hrc : rm.cells = 0) (hrs : rm.slots = 0)
    (body : ∀ κ : nz_C, nz_Env κ q tb maxL cc y.cls ws rm → κ.2.2.2 = w → κ.1.2.1 = l → nz_RL κ q tb o → nz_St κ q tb maxL 0 (lv_args 0 av) [] x) : nz_ML l y ws rm w q tb av x o := by
  intro sz
  refine Met.ofW (cc := cc) (maxL := maxL) (ret := some .long) hy hw ?_
  intro p e s m args below meth c s₁ B hml hv
  obtain ⟨rfl, hsz, hP, hK, hD0, hN0⟩ := hv
  subst hsz
  have hl := lv_entry av (n := maxL) hlen
  rw [lg_entry_eq]
  refine body ((p, l, e, (headSpec ws rm).room, s), (m, av.toArray, below, meth, c), (MQ below (nz_QL w q tb s.heap.size o) av.toArray s 0 0 (nz_A tb q s.heap.size), w)) ⟨B.exec, B.bytes, hml, findClass_of_methodNamed B.named, atoms_spec (ws := ws) B.pre, hK, B.notSynchronized, rfl, hrc, hrs, hN0⟩ rfl rfl ⟨rfl, B.returns⟩ s.heap [] _ hP (hD0.weaken (fun _ _ hk _ => nz_A_addr hk)) va_S.rf (nz_has_of hl)
theorem nz_enterV {l : Launch} {y : MethodName} {ws ws' : List Cond} {rm : Room} {w : nz_O} {q : Nat → Nat} {tb : List nz_K} {av : List Value} {x : nz_S} {o : Unit × nz_S} {cc : ByteArray} {maxL : Nat} (hy : plainName y.cls = true) (hw : ws = Cond.code y cc maxL (none) :: ws') (hlen : (lg_sl av).length ≤ maxL) (hrc : rm.cells = 0) (hrs : rm.slots = 0)
    (body : ∀ κ : nz_C, nz_Env κ q tb maxL cc y.cls ws rm → κ.2.2.2 = w → κ.1.2.1 = l → nz_RV κ q tb o → nz_St κ q tb maxL 0 (lv_args 0 av) [] x) : nz_MV l y ws rm w q tb av x o := by
  intro sz
  refine Met.ofW (cc := cc) (maxL := maxL) (ret := none) hy hw ?_
  intro p e s m args below meth c s₁ B hml hv
  obtain ⟨rfl, hsz, hP, hK, hD0, hN0⟩ := hv
  subst hsz
  have hl := lv_entry av (n := maxL) hlen
  rw [lg_entry_eq]
  refine body ((p, l, e, (headSpec ws rm).room, s), (m, av.toArray, below, meth, c), (MQ below (nz_QV w q tb s.heap.size o) av.toArray s 0 0 (nz_A tb q s.heap.size), w)) ⟨B.exec, B.bytes, hml, findClass_of_methodNamed B.named, atoms_spec (ws := ws) B.pre, hK, B.notSynchronized, rfl, hrc, hrs, hN0⟩ rfl rfl ⟨rfl, B.returns⟩ s.heap [] _ hP (hD0.weaken (fun _ _ hk _ => nz_A_addr hk)) va_S.rf (nz_has_of hl)
/-! THE METHODS AS FUNCTIONS: none where the machine would throw, or the fuel is out -/
def nz_chk {α : Type} (b : Bool) (k : Option α) : Option α := match b with
  | true => k
  | false => none
def nz_bnd {α β : Type} (o : Option (α × nz_S)) (k : α → nz_S → Option β) : Option β := match o with
  | some (a, x) => k a x
  | none => none
theorem nz_chk_t {α : Type} {b : Bool} {k : Option α} {o : α} (h : nz_chk b k = some o) : b = true ∧ k = some o := by
  cases b
  · cases h
  · exact ⟨rfl, h⟩
theorem nz_bnd_t {α β : Type} {o : Option (α × nz_S)} {k : α → nz_S → Option β} {r : β} (h : nz_bnd o k = some r) : ∃ a x, o = some (a, x) ∧ k a x = some r := by
  rcases o with _ | ⟨a, x⟩
  · cases h
  · exact ⟨a, x, rfl, h⟩
theorem nz_ite_t {α : Type} {c : Prop} [Decidable c] {a b : α} {o : α} (h : (if c then a else b) = o) (hc : c) : a = o := by rw [if_pos hc] at h; exact h
theorem nz_ite_f {α : Type} {c : Prop} [Decidable c] {a b : α} {o : α} (h : (if c then a else b) = o) (hc : ¬ c) : b = o := by rw [if_neg hc] at h; exact h
