/-- the cells of a NestFinder: 0 itself, 1-2 its text, 3-6 now, 7-10 trial, 11-19 the survey, 20-25 the history, 26-32 the slots, 33-36 what was seen -/
def nz_tK : List nz_K := [.inr (7, [.inr 1, .inr 3, .inr 7, .inr 11, .inr 20, .inr 26, .inr 33, .inl true]), .inr (6, [.inr 2, .inl false]), .inl (64, false), .inr (0, [.inr 4, .inr 5, .inr 6, .inl false]), .inl (12, false), .inl (12, false), .inl (36, false), .inr (0, [.inr 8, .inr 9, .inr 10, .inl false]), .inl (12, false), .inl (12, false), .inl (36, false), .inr (5, [.inr 12, .inr 13, .inr 14, .inr 15, .inr 16, .inr 17, .inr 18, .inr 19, .inl false, .inl false, .inl false]), .inl (12, false), .inl (12, false), .inl (12, false), .inl (12, false), .inl (12, false), .inl (12, false), .inl (12, false), .inl (12, false), .inr (1, [.inr 21, .inl false, .inl false]), .inr (2, [.inr 22, .inr 23, .inr 24, .inr 25]), .inl (14, false), .inl (168, false), .inl (168, false), .inl (504, false), .inr (4, [.inr 27, .inr 32]), .inr (2, [.inr 28, .inr 29, .inr 30, .inr 31]), .inl (2, false), .inl (24, false), .inl (24, false), .inl (72, false), .inl (2, true), .inr (3, [.inr 34, .inr 35, .inr 36, .inl false]), .inl (6, false), .inl (6, false), .inl (6, true)]
/-- the cells of the reference: 0 itself, then its rows in the order of their fields -/
def nz_tM : List nz_K := [.inr (8, [.inl false, .inr 1, .inl false, .inl false, .inr 2, .inr 3, .inr 4, .inr 5, .inl false, .inr 6, .inr 7, .inl false, .inr 8, .inr 9, .inr 10, .inl true, .inl false, .inr 11, .inr 12, .inr 13, .inr 14, .inr 15, .inr 16, .inr 17, .inr 18, .inl false, .inl false, .inr 19]), .inl (64, false), .inl (61, false), .inl (61, false), .inl (61, false), .inl (854, false), .inl (122, false), .inl (2, true), .inl (6, false), .inl (6, false), .inl (6, false), .inl (12, false), .inl (12, false), .inl (13, false), .inl (13, false), .inl (12, false), .inl (12, false), .inl (12, false), .inl (3, false), .inl (8, false)]
def nz_isG (g : Nat) : Prop := nz_tK[g]? = some (.inr (0, [.inr (g + 1), .inr (g + 2), .inr (g + 3), .inl false])) ∧ nz_tK[g + 1]? = some (.inl (12, false)) ∧ nz_tK[g + 2]? = some (.inl (12, false)) ∧ nz_tK[g + 3]? = some (.inl (36, false))
def nz_isH (h n : Nat) : Prop := nz_tK[h]? = some (.inr (2, [.inr (h + 1), .inr (h + 2), .inr (h + 3), .inr (h + 4)])) ∧ nz_tK[h + 1]? = some (.inl (n, false)) ∧ nz_tK[h + 2]? = some (.inl (n * 12, false)) ∧ nz_tK[h + 3]? = some (.inl (n * 12, false)) ∧ nz_tK[h + 4]? = some (.inl (n * 36, false))
def nz_isP (p : Nat) : Prop := nz_tM[p]? = some (.inl (61, false))
def nz_isA (c n : Nat) : Prop := nz_tK[c]? = some (.inl (n, false))
theorem nz_g3 : nz_isG 3 := ⟨rfl, rfl, rfl, rfl⟩
theorem nz_g7 : nz_isG 7 := ⟨rfl, rfl, rfl, rfl⟩
theorem nz_h21 : nz_isH 21 14 := ⟨rfl, rfl, rfl, rfl, rfl⟩
theorem nz_h27 : nz_isH 27 2 := ⟨rfl, rfl, rfl, rfl, rfl⟩
theorem nz_p2 : nz_isP 2 := rfl
theorem nz_p3 : nz_isP 3 := rfl
theorem nz_p4 : nz_isP 4 := rfl
abbrev nz_T (y : MethodName) (c : ByteArray) (n : Nat) (r : Option FieldType) : List Cond := Cond.code y c n r :: nz_G
abbrev nz_R (f l : Nat) : Room := { frames := f, cells := 0, slots := 0, locals := l }
theorem nz_upT {us : List Cond} {y : MethodName} {c : ByteArray} {n : Nat} {r : Option FieldType} (h : ∀ w ∈ us, w ∈ nz_G) : ∀ w ∈ us, w ∈ nz_T y c n r := fun w hw => List.mem_cons_of_mem _ (h w hw)
theorem nz_goodG {y : MethodName} {c : ByteArray} {n : Nat} {r : Option FieldType} {y2 : MethodName} {c2 : ByteArray} {n2 : Nat} {r2 : Option FieldType} (h : Cond.code y2 c2 n2 r2 ∈ nz_G) : GoodIn (nz_T y c n r) (nz_T y2 c2 n2 r2) := by
  intro w hw
  have h1 : w ∈ nz_G := by
    rcases List.mem_cons.mp hw with rfl | hw
    · exact h
    · exact hw
  exact ⟨List.mem_cons_of_mem _ h1, good_of_word (List.mem_filter.mp h1).2⟩
def nz_dsc (y : MethodName) (n : Nat) : Prop := y.cls ≠ "java/lang/invoke/MethodHandle" ∧ y.cls ≠ "java/lang/invoke/VarHandle" ∧ (parseMethodDescriptor y.desc).map (fun d => d.parameters.length) = some n
def nz_bo (v : Int32) : Bool := v == 0 || v == 1
theorem nz_narZ {v : Int32} (h : nz_bo v = true) : narrow .boolean (.int v) = .int v := by
  unfold nz_bo at h
  rw [Bool.or_eq_true, beq_iff_eq, beq_iff_eq] at h
  rcases h with rfl | rfl <;> rfl
theorem nz_i32 {a b : Int32} (h : a.toInt = b.toInt) : a = b := Int32.toInt_inj.mp h
def nz_cpok (sp dp n : Int32) (n0 n1 : Nat) : Bool := decide (¬ sp < 0 ∧ ¬ dp < 0 ∧ ¬ n < 0 ∧ sp.toNatClampNeg + n.toNatClampNeg ≤ n0 ∧ dp.toNatClampNeg + n.toNatClampNeg ≤ n1)
def nz_F : Nat := 1000
section NZD
variable {κ : nz_C} {q : Nat → Nat} {tb : List nz_K} {nL pc : Nat} {cc : ByteArray} {own : String} {rm : Room} {lv : List (Nat × Value)} {st : List Value} {x x1 : nz_S}
variable {y : MethodName} {rm1 : Room} {bytes : ByteArray} {maxL index n : Nat} {ret : Option FieldType} {As rest : List Value} {y0 : MethodName} {c0' : ByteArray} {n0' : Nat} {r0' : Option FieldType}
theorem nz_cwV {C : String} (E : nz_Env κ q tb nL cc own (nz_T y0 c0' n0' r0') rm) (h1 : Cond.methodLink own index y ∈ nz_G) (h2 : Cond.instanceMethod y ∈ nz_G) (h3 : Cond.selects C y y ∈ nz_G) (h4 : Cond.initialized y.cls ∈ nz_G) (h5 : Cond.code y bytes maxL ret ∈ nz_G) (hd : nz_dsc y n) (hR : rm1.frames + 1 ≤ rm.frames ∧ 8 + (maxL + 11) + rm1.locals ≤ rm.locals) (hrc : rm1.cells = 0) (hrs : rm1.slots = 0) : CallW rm κ.1.2.2.2.2 κ.2.1.2.1 own C index y bytes maxL ret (nz_T y bytes maxL ret) rm1 0 0 n :=
  ⟨callB_of n E.hts (nz_goodG h5) rfl hrc hrs (E.hts _ (List.mem_cons_of_mem _ h4)) (E.hts _ (List.mem_cons_of_mem _ h1)) hd hR, E.hts _ (List.mem_cons_of_mem _ h2), E.hts _ (List.mem_cons_of_mem _ h3)⟩
theorem nz_cwS (E : nz_Env κ q tb nL cc own (nz_T y0 c0' n0' r0') rm) (h1 : Cond.methodLink own index y ∈ nz_G) (h2 : Cond.static y ∈ nz_G) (h4 : Cond.initialized y.cls ∈ nz_G) (h5 : Cond.code y bytes maxL ret ∈ nz_G) (hd : nz_dsc y n) (hR : rm1.frames + 1 ≤ rm.frames ∧ 8 + (maxL + 11) + rm1.locals ≤ rm.locals) (hrc : rm1.cells = 0) (hrs : rm1.slots = 0) : CallB rm κ.1.2.2.2.2 κ.2.1.2.1 own index y bytes maxL ret (nz_T y bytes maxL ret) rm1 0 0 n ∧ (Cond.static y).before κ.2.1.2.1 κ.1.2.2.2.2 = true :=
  ⟨callB_of n E.hts (nz_goodG h5) rfl hrc hrs (E.hts _ (List.mem_cons_of_mem _ h4)) (E.hts _ (List.mem_cons_of_mem _ h1)) hd hR, E.hts _ (List.mem_cons_of_mem _ h2)⟩
theorem nz_copy (E : nz_Env κ q tb nL cc own (nz_T y0 c0' n0' r0') rm) {c1 c2 n1 n2 : Nat} {sp dp m : Int32} (ht1 : tb[c1]? = some (.inl (n1, false))) (ht2 : tb[c2]? = some (.inl (n2, false))) (hl0 : Cond.methodLink own index arraycopyName ∈ nz_G) (hnat : Cond.native arraycopyName ∈ nz_G) (hstat : Cond.static arraycopyName ∈ nz_G) (hini : Cond.initialized "java/lang/System" ∈ nz_G) (hin : nz_cpok sp dp m n1 n2 = true) (hfr : 1 ≤ rm.frames) (hlo : (st.map fun v => v.category).sum + (nativeFrameWords "java/lang/System" "arraycopy" 5 + 11) ≤ rm.locals) (d : decode cc pc = .ok (.invokestatic index, 3))
    (k : nz_St κ q tb nL (pc + 3) lv st (nz_set x c2 (va_cpy (x.1 c1) (x.1 c2) sp.toNatClampNeg dp.toNatClampNeg m.toNatClampNeg))) : nz_St κ q tb nL pc lv (.int m :: .int dp :: .ref (q c2) :: .int sp :: .ref (q c1) :: st) x := fun H locs ls hP hD hS hl => by
  obtain ⟨h1, h2, h3, h4, h5⟩ := of_decide_eq_true hin
  refine va_copyi E.hx E.hb (by rw [E.hml]; exact hl.1.symm) E.hown (E.hts _ (List.mem_cons_of_mem _ hl0)) (E.hts _ (List.mem_cons_of_mem _ hnat)) (E.hts _ (List.mem_cons_of_mem _ hstat)) (E.hts _ (List.mem_cons_of_mem _ hini)) E.hK hP hD hS c1 c2 0 0 (nz_at ht1) (nz_at ht2) (ty := .int) rfl rfl rfl h1 h2 h3 h4 h5 (fun _ _ => rfl) (by rw [E.hR]; exact hfr) (by rw [E.hR]; exact hlo) d (fun H1 locs1 hP1 hD1 hS1 => ?_)
  rw [nz_setA ht2] at hP1 hD1
  exact k H1 locs1 ls hP1 hD1 hS1 hl
theorem nz_mmax (E : nz_Env κ q tb nL cc own (nz_T y0 c0' n0' r0') rm) {a b : Int32} (hl0 : Cond.methodLink own index Lib.Math.max.name ∈ nz_G) (hstat : Cond.static Lib.Math.max.name ∈ nz_G) (hini : Cond.initialized "java/lang/Math" ∈ nz_G) (hcode : Cond.code Lib.Math.max.name Lib.Math.max.code 2 (some .int) ∈ nz_G) (hfr : 1 ≤ rm.frames) (hlo : (st.map fun v => v.category).sum + 13 ≤ rm.locals) (d : decode cc pc = .ok (.invokestatic index, 3))
    (k : nz_St κ q tb nL (pc + 3) lv (.int (if a < b then b else a) :: st) x) : nz_St κ q tb nL pc lv (.int b :: .int a :: st) x := fun H locs ls hP hD hS hl =>
  va_mmax E.hx E.hb (by rw [E.hml]; exact hl.1.symm) E.hown (E.hts _ (List.mem_cons_of_mem _ hl0)) (E.hts _ (List.mem_cons_of_mem _ hstat)) (E.hts _ (List.mem_cons_of_mem _ hini)) (E.hts _ (List.mem_cons_of_mem _ hcode)) (by rw [E.hR]; exact hfr) (by rw [E.hR]; exact hlo) (Nat.zero_le _) (Nat.zero_le _) d (k H locs ls hP hD hS hl)
theorem nz_mabs (E : nz_Env κ q tb nL cc own (nz_T y0 c0' n0' r0') rm) {a : Int32} (hl0 : Cond.methodLink own index Lib.Math.abs.name ∈ nz_G) (hstat : Cond.static Lib.Math.abs.name ∈ nz_G) (hini : Cond.initialized "java/lang/Math" ∈ nz_G) (hcode : Cond.code Lib.Math.abs.name Lib.Math.abs.code 1 (some .int) ∈ nz_G) (hfr : 1 ≤ rm.frames) (hlo : (st.map fun v => v.category).sum + 13 ≤ rm.locals) (d : decode cc pc = .ok (.invokestatic index, 3))
    (k : nz_St κ q tb nL (pc + 3) lv (.int (if 0 ≤ a then a else 0 - a) :: st) x) : nz_St κ q tb nL pc lv (.int a :: st) x := fun H locs ls hP hD hS hl =>
  va_mabs E.hx E.hb (by rw [E.hml]; exact hl.1.symm) E.hown (E.hts _ (List.mem_cons_of_mem _ hl0)) (E.hts _ (List.mem_cons_of_mem _ hstat)) (E.hts _ (List.mem_cons_of_mem _ hini)) (E.hts _ (List.mem_cons_of_mem _ hcode)) (by rw [E.hR]; exact hfr) (by rw [E.hR]; exact hlo) (Nat.zero_le _) (Nat.zero_le _) d (k H locs ls hP hD hS hl)
end NZD
theorem nz_swO {w : Int32} {lo hi : Int} (h : ∀ i : Int, lo ≤ i → i ≤ hi → w.toInt ≠ i) : w.toInt < lo ∨ hi < w.toInt := by
  by_cases h1 : w.toInt < lo
  · exact Or.inl h1
  · by_cases h2 : hi < w.toInt
    · exact Or.inr h2
    · exact absurd rfl (h w.toInt (by omega) (by omega))
theorem nz_oneX7 : ∀ j : Nat, ([.inr 1, .inr 3, .inr 7, .inr 11, .inr 20, .inr 26, .inr 33, .inl true] : List (Bool ⊕ Nat))[j]? = some (.inl true) → j = 7 := fun j h => by
  rcases j with _ | _ | _ | _ | _ | _ | _ | _ | j <;> first | rfl | (simp at h)
theorem nz_oneX8 : ∀ j : Nat, ([.inl false, .inr 1, .inl false, .inl false, .inr 2, .inr 3, .inr 4, .inr 5, .inl false, .inr 6, .inr 7, .inl false, .inr 8, .inr 9, .inr 10, .inl true, .inl false, .inr 11, .inr 12, .inr 13, .inr 14, .inr 15, .inr 16, .inr 17, .inr 18, .inl false, .inl false, .inr 19] : List (Bool ⊕ Nat))[j]? = some (.inl true) → j = 15 := fun j h => by
  rcases j with _ | _ | _ | _ | _ | _ | _ | _ | _ | _ | _ | _ | _ | _ | _ | _ | _ | _ | _ | _ | _ | _ | _ | _ | _ | _ | _ | _ | j <;> first | rfl | (simp at h)
