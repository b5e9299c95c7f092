abbrev nz_LC : Type := (Program × Launch × Env × State) × (MethodId × List Frame × Method × Code × Nat) × (nz_O × (Nat → Nat) × (Nat → Nat))
def nz_A0 (s : State) : Nat → Prop := fun a => s.heap.size ≤ a
def nz_Ph (s : State) (w : nz_O) (q1 q2 : Nat → Nat) (xk xm : nz_S) (H : Heap) (locs : List Loc) : Prop := va_P w.1 nz_cl (nz_W w q1 xk nz_tK) H ∧ va_P w.1 nz_cl (nz_W w q2 xm nz_tM) H ∧ va_D (nz_A0 s) (nz_W w q1 xk nz_tK) ∧ va_D (nz_A0 s) (nz_W w q2 xm nz_tM) ∧ (∀ i j, i < nz_tK.length → j < nz_tM.length → q1 i ≠ q2 j) ∧ va_S (nz_A0 s) s.heap H locs
def nz_Ls (κ : nz_LC) (pc : Nat) (lv : List (Nat × Value)) (st : List Value) (xk xm : nz_S) : Prop :=
  ∀ (H : Heap) (locs : List Loc) (ls : Array Slot), nz_Ph κ.1.2.2.2 κ.2.2.1 κ.2.2.2.1 κ.2.2.2.2 xk xm H locs → nz_has ls 4 lv →
    W κ.1.1 κ.1.2.1 κ.1.2.2.1 room_1 κ.1.2.2.2 κ.2.1.1 #[Value.ref κ.2.1.2.2.2.2] κ.2.1.2.1 κ.2.1.2.2.1 κ.2.1.2.2.2.1 H locs 57 2690 (lw_Z κ.2.1.2.1 #[Value.ref κ.2.1.2.2.2.2] κ.1.2.2.2) (F0 κ.2.1.1 pc ls st)
def nz_LE (κ : nz_LC) (L : Nat) (xs : Nat → Int32) : Prop := lw_At κ.1.1 κ.1.2.2.2 κ.2.1.1 κ.2.1.2.2.1 κ.2.1.2.2.2.1 κ.2.1.2.2.2.2 L xs ∧ va_K κ.2.2.1.1 nz_cl (nz_ty κ.2.2.1) κ.1.2.2.2 ∧ nz_Nst κ.1.2.2.2 ∧ L ≤ 2048
theorem nz_G_tbl {w : Cond} (h : w ∈ nz_G) : w ∈ lw_tbl := (List.mem_filter.mp h).1
theorem nz_goodL {y2 : MethodName} {c2 : ByteArray} {n2 : Nat} {r2 : Option FieldType} (h : Cond.code y2 c2 n2 r2 ∈ nz_G) : GoodIn lw_tbl (nz_T y2 c2 n2 r2) := by
  intro w hw
  have h1 : w ∈ nz_G := by
    rcases List.mem_cons.mp hw with rfl | hw
    · exact h
    · exact hw
  exact ⟨nz_G_tbl h1, good_of_word (List.mem_filter.mp h1).2⟩
section NZL
variable {κ : nz_LC} {L : Nat} {xs : Nat → Int32} {pc : Nat} {lv : List (Nat × Value)} {st : List Value} {xk xm xk1 xm1 : nz_S}
theorem nz_LE.hx (E : nz_LE κ L xs) : κ.1.1.tables.exec = Jvm.exec := E.1.1
theorem nz_LE.hb (E : nz_LE κ L xs) : κ.2.1.2.2.2.1.code = code := E.1.2.1
theorem nz_LE.hr (E : nz_LE κ L xs) : κ.2.1.2.2.1.sig.returnType = ret := E.1.2.2.1
theorem nz_LE.hml (E : nz_LE κ L xs) : κ.2.1.2.2.2.1.maxLocals = 4 := E.1.2.2.2.1
theorem nz_LE.hown (E : nz_LE κ L xs) : κ.1.2.2.2.vm.findClass R_law = some κ.2.1.1.cls := E.1.2.2.2.2.1
theorem nz_LE.hts (E : nz_LE κ L xs) : ∀ w ∈ lw_tbl, w.before #[Value.ref κ.2.1.2.2.2.2] κ.1.2.2.2 = true := E.1.2.2.2.2.2.1
theorem nz_LE.hX (E : nz_LE κ L xs) : va_X κ.2.1.2.2.2.2 L xs κ.1.2.2.2 κ.1.2.2.2.heap := E.1.2.2.2.2.2.2.1
theorem nz_LE.hbl (E : nz_LE κ L xs) : κ.2.1.2.2.2.2 < κ.1.2.2.2.heap.size := E.1.2.2.2.2.2.2.2.1
theorem nz_LE.hlk (E : nz_LE κ L xs) : κ.2.1.2.2.1.locks = false := E.1.2.2.2.2.2.2.2.2.1
theorem nz_LE.hK (E : nz_LE κ L xs) : va_K κ.2.2.1.1 nz_cl (nz_ty κ.2.2.1) κ.1.2.2.2 := E.2.1
theorem nz_LE.hN (E : nz_LE κ L xs) : nz_Nst κ.1.2.2.2 := E.2.2.1
theorem nz_LE.hL (E : nz_LE κ L xs) : L ≤ 2048 := E.2.2.2
theorem nz_LE.hbA (E : nz_LE κ L xs) : ¬ nz_A0 κ.1.2.2.2 κ.2.1.2.2.2.2 := Nat.not_le.mpr E.hbl
theorem nz_Lweak {lv' : List (Nat × Value)} (hs : nz_sub lv lv') (k : nz_Ls κ pc lv' st xk xm) : nz_Ls κ pc lv st xk xm := fun H locs ls hP hl => k H locs ls hP (nz_has_sub hs hl)
theorem nz_Liconst (E : nz_LE κ L xs) {n : Int} {v : Int32} (d : decode code pc = .ok (.iconst n, 1)) (hv : Int32.ofInt n = v) (k : nz_Ls κ (pc + 1) lv (.int v :: st) xk xm) : nz_Ls κ pc lv st xk xm := fun H locs ls hP hl => lv_iconst E.hx E.hb d hv (k H locs ls hP hl)
theorem nz_Lbipush (E : nz_LE κ L xs) {n : Int} {v : Int32} (d : decode code pc = .ok (.bipush n, 2)) (hv : (Int8.ofInt n).toInt32 = v) (k : nz_Ls κ (pc + 2) lv (.int v :: st) xk xm) : nz_Ls κ pc lv st xk xm := fun H locs ls hP hl => lv_bipush E.hx E.hb d hv (k H locs ls hP hl)
theorem nz_Liload_n (E : nz_LE κ L xs) {j : Fin 4} {i : Nat} {v : Int32} (d : decode code pc = .ok (.iload_n j, 1)) (hi : (j : Nat) = i) (h : nz_lk lv i = some (.int v)) (k : nz_Ls κ (pc + 1) lv (.int v :: st) xk xm) : nz_Ls κ pc lv st xk xm := fun H locs ls hP hl => lv_iload_n E.hx E.hb d hi (hl.2.2 _ _ h) (k H locs ls hP hl)
theorem nz_Laload_n (E : nz_LE κ L xs) {j : Fin 4} {i : Nat} {v : Nat} (d : decode code pc = .ok (.aload_n j, 1)) (hi : (j : Nat) = i) (h : nz_lk lv i = some (.ref v)) (k : nz_Ls κ (pc + 1) lv (.ref v :: st) xk xm) : nz_Ls κ pc lv st xk xm := fun H locs ls hP hl => lv_aload_n E.hx E.hb d hi (hl.2.2 _ _ h) (k H locs ls hP hl)
theorem nz_Liadd (E : nz_LE κ L xs) {a b : Int32} (d : decode code pc = .ok (.iadd, 1)) (k : nz_Ls κ (pc + 1) lv (.int (a + b) :: st) xk xm) : nz_Ls κ pc lv (.int b :: .int a :: st) xk xm := fun H locs ls hP hl => lv_iadd E.hx E.hb d (k H locs ls hP hl)
theorem nz_Lisub (E : nz_LE κ L xs) {a b : Int32} (d : decode code pc = .ok (.isub, 1)) (k : nz_Ls κ (pc + 1) lv (.int (a - b) :: st) xk xm) : nz_Ls κ pc lv (.int b :: .int a :: st) xk xm := fun H locs ls hP hl => lv_isub E.hx E.hb d (k H locs ls hP hl)
theorem nz_Liand (E : nz_LE κ L xs) {a b : Int32} (d : decode code pc = .ok (.iand, 1)) (k : nz_Ls κ (pc + 1) lv (.int (a &&& b) :: st) xk xm) : nz_Ls κ pc lv (.int b :: .int a :: st) xk xm := fun H locs ls hP hl => lv_iand E.hx E.hb d (k H locs ls hP hl)
theorem nz_Lland (E : nz_LE κ L xs) {a b : Int64} (d : decode code pc = .ok (.land, 1)) (k : nz_Ls κ (pc + 1) lv (.long (a &&& b) :: st) xk xm) : nz_Ls κ pc lv (.long b :: .long a :: st) xk xm := fun H locs ls hP hl => lv_land E.hx E.hb d (k H locs ls hP hl)
theorem nz_Llor (E : nz_LE κ L xs) {a b : Int64} (d : decode code pc = .ok (.lor, 1)) (k : nz_Ls κ (pc + 1) lv (.long (a ||| b) :: st) xk xm) : nz_Ls κ pc lv (.long b :: .long a :: st) xk xm := fun H locs ls hP hl => lv_lor E.hx E.hb d (k H locs ls hP hl)
theorem nz_Llshl (E : nz_LE κ L xs) {a : Int64} {b : Int32} (d : decode code pc = .ok (.lshl, 1)) (k : nz_Ls κ (pc + 1) lv (.long (a <<< (b.toInt64 &&& 63)) :: st) xk xm) : nz_Ls κ pc lv (.int b :: .long a :: st) xk xm := fun H locs ls hP hl => lv_lshl E.hx E.hb d rfl (k H locs ls hP hl)
theorem nz_Li2l (E : nz_LE κ L xs) {a : Int32} (d : decode code pc = .ok (.i2l, 1)) (k : nz_Ls κ (pc + 1) lv (.long a.toInt64 :: st) xk xm) : nz_Ls κ pc lv (.int a :: st) xk xm := fun H locs ls hP hl => lv_i2l E.hx E.hb d rfl (k H locs ls hP hl)
theorem nz_Lldc2 (E : nz_LE κ L xs) {index : Nat} {v : Int64} (hc : Cond.constantLong R_law index v ∈ nz_G) (d : decode code pc = .ok (.ldc2_w index, 3)) (k : nz_Ls κ (pc + 3) lv (.long v :: st) xk xm) : nz_Ls κ pc lv st xk xm := fun H locs ls hP hl => lv_ldc2 E.hx E.hb E.hown (E.hts _ (nz_G_tbl hc)) d (k H locs ls hP hl)
theorem nz_Lgoto (E : nz_LE κ L xs) {off : Int} {tgt : Nat} (d : decode code pc = .ok (.goto off, 3)) (ht : (pc : Int) + off = (tgt : Int)) (k : nz_Ls κ tgt lv st xk xm) : nz_Ls κ pc lv st xk xm := fun H locs ls hP hl => lv_goto E.hx E.hb d ht (k H locs ls hP hl)
theorem nz_LtabOut (E : nz_LE κ L xs) {dflt lo hi : Int} {offs : Array Int} {len : Nat} {a : Int32} {tgt : Nat} (d : decode code pc = .ok (.tableswitch dflt lo hi offs, len)) (h : a.toInt < lo ∨ hi < a.toInt) (ht : (pc : Int) + dflt = (tgt : Int)) (k : nz_Ls κ tgt lv st xk xm) : nz_Ls κ pc lv (.int a :: st) xk xm := fun H locs ls hP hl => lv_tableOut E.hx E.hb d h ht (k H locs ls hP hl)
theorem nz_LtabIn (E : nz_LE κ L xs) {dflt lo hi : Int} {offs : Array Int} {len : Nat} {a : Int32} {off : Int} {tgt : Nat} (d : decode code pc = .ok (.tableswitch dflt lo hi offs, len)) (h1 : ¬ a.toInt < lo) (h2 : ¬ hi < a.toInt) (ho : offs[(a.toInt - lo).toNat]? = some off) (ht : (pc : Int) + off = (tgt : Int)) (k : nz_Ls κ tgt lv st xk xm) : nz_Ls κ pc lv (.int a :: st) xk xm := fun H locs ls hP hl => lv_tableIn E.hx E.hb d h1 h2 ho ht (k H locs ls hP hl)
theorem nz_Lsld (E : nz_LE κ L xs) {i : Int32} (hin : vp_in i L) (d : decode code pc = .ok (.iaload, 1)) (k : nz_Ls κ (pc + 1) lv (.int (xs i.toNatClampNeg) :: st) xk xm) : nz_Ls κ pc lv (.int i :: .ref κ.2.1.2.2.2.2 :: st) xk xm := fun H locs ls hP hl => va_sld E.hx E.hb E.hX E.hbl E.hbA hP.2.2.2.2.2 hin d (k H locs ls hP hl)
theorem nz_Lslen (E : nz_LE κ L xs) (d : decode code pc = .ok (.arraylength, 1)) (k : nz_Ls κ (pc + 1) lv (.int (nI L) :: st) xk xm) : nz_Ls κ pc lv (.ref κ.2.1.2.2.2.2 :: st) xk xm := fun H locs ls hP hl => va_slen E.hx E.hb E.hX E.hbl E.hbA hP.2.2.2.2.2 d (k H locs ls hP hl)
theorem nz_LeqT (E : nz_LE κ L xs) {a : Int32} {off : Int} {tgt : Nat} (d : decode code pc = .ok (.if_icmp .eq off, 3)) (ht : (pc : Int) + off = (tgt : Int)) (k : nz_Ls κ tgt lv st xk xm) : nz_Ls κ pc lv (.int a :: .int a :: st) xk xm := fun H locs ls hP hl => lv_icmp_eq E.hx E.hb d ht (fun _ => (k H locs ls hP hl)) (fun h => absurd rfl h)
theorem nz_LlcT (E : nz_LE κ L xs) {a : Int64} (d : decode code pc = .ok (.lcmp, 1)) (k : nz_Ls κ (pc + 1) lv (.int 0 :: st) xk xm) : nz_Ls κ pc lv (.long a :: .long a :: st) xk xm := fun H locs ls hP hl => W.lcmp E.hx E.hb d (by rw [show lg_cmp a a = 0 by simp [lg_cmp]]; exact (k H locs ls hP hl))
theorem nz_Lif0T (E : nz_LE κ L xs) {off : Int} {tgt : Nat} (d : decode code pc = .ok (.ifCond .eq off, 3)) (ht : (pc : Int) + off = (tgt : Int)) (k : nz_Ls κ tgt lv st xk xm) : nz_Ls κ pc lv (.int 0 :: st) xk xm := fun H locs ls hP hl => lv_if_eq E.hx E.hb d ht (fun _ => (k H locs ls hP hl)) (fun h => absurd rfl h)
theorem nz_Lgt (E : nz_LE κ L xs) {a b : Int32} {off : Int} {tgt : Nat} (d : decode code pc = .ok (.if_icmp .gt off, 3)) (ht : (pc : Int) + off = (tgt : Int)) (kt : b < a → nz_Ls κ tgt lv st xk xm) (kf : ¬ b < a → nz_Ls κ (pc + 3) lv st xk xm) : nz_Ls κ pc lv (.int b :: .int a :: st) xk xm := fun H locs ls hP hl => lv_icmp_gt E.hx E.hb d ht (fun h => kt h H locs ls hP hl) (fun h => kf h H locs ls hP hl)
theorem nz_Lifeq (E : nz_LE κ L xs) {a : Int32} {off : Int} {tgt : Nat} (d : decode code pc = .ok (.ifCond .eq off, 3)) (ht : (pc : Int) + off = (tgt : Int)) (kt : a = 0 → nz_Ls κ tgt lv st xk xm) (kf : ¬ a = 0 → nz_Ls κ (pc + 3) lv st xk xm) : nz_Ls κ pc lv (.int a :: st) xk xm := fun H locs ls hP hl => lv_if_eq E.hx E.hb d ht (fun h => kt h H locs ls hP hl) (fun h => kf h H locs ls hP hl)
theorem nz_Liinc (E : nz_LE κ L xs) {i : Nat} {n : Int} {v w : Int32} (d : decode code pc = .ok (.iinc i n, 3)) (h : nz_lk lv i = some (.int v)) (hw : Int32.ofInt n = w) (hn : i < 4) (hok : nz_okS lv i = true) (k : nz_Ls κ (pc + 3) ((i, .int (v + w)) :: lv) st xk xm) : nz_Ls κ pc lv st xk xm := fun H locs ls hP hl => by
  obtain ⟨j, hj⟩ := nz_cn_place h
  exact lv_iinc E.hx E.hb d (nz_has_list hl) hj (by rw [hw]) hn rfl (fun ls2 hl2 => k H locs ls2 hP (nz_has_st hok hl2))
theorem nz_Lend (E : nz_LE κ L xs) (d : decode code pc = .ok (.ireturn, 1)) : nz_Ls κ pc lv [.int 1] xk xm := fun H locs ls hP hl => va_forget (fun q hq => hP.2.2.2.2.2.2.2 q hq) (W.widen (k := 600000) (n := 7302250) (Nat.le_of_ble_eq_true rfl) (Nat.le_of_ble_eq_true rfl) (lw_ret E.hx E.hb E.hr E.hlk d))
theorem nz_keep1 {s : State} {w : nz_O} {q1 q2 : Nat → Nat} {tb1 tb2 : List nz_K} {x : nz_S} {H H1 : Heap} (hd : ∀ i j, i < tb1.length → j < tb2.length → q1 i ≠ q2 j) (hP : va_P w.1 nz_cl (nz_W w q2 x tb2) H) (hk : ∀ q : Nat, q < H.size → ¬ nz_A tb1 q1 H.size q → H1[q]? = H[q]?) : va_P w.1 nz_cl (nz_W w q2 x tb2) H1 := by
  refine hP.kept (fun k e he => ?_)
  have hlt : e.1 < H.size := (hP k e he).lt
  refine hk e.1 hlt (fun hz => ?_)
  rcases hz with ⟨i, hi, hq⟩ | hz
  · rw [nz_Wl_get] at he
    cases hd2 : tb2[k]? with
    | none => rw [hd2] at he; cases he
    | some d2 =>
      rw [hd2] at he
      cases he
      have hk2 : k < tb2.length := (List.getElem?_eq_some_iff.mp hd2).1
      exact hd i k hi hk2 (by simpa using hq.symm)
  · omega
theorem nz_recvK {w : nz_O} {q : Nat → Nat} {x : nz_S} : (nz_W w q x nz_tK)[0]? = some (q 0, .inr (7, nz_fs q x 0 0 [.inr 1, .inr 3, .inr 7, .inr 11, .inr 20, .inr 26, .inr 33, .inl true])) := nz_at (d := .inr (7, [.inr 1, .inr 3, .inr 7, .inr 11, .inr 20, .inr 26, .inr 33, .inl true])) rfl
theorem nz_recvM {w : nz_O} {q : Nat → Nat} {x : nz_S} : (nz_W w q x nz_tM)[0]? = some (q 0, .inr (8, nz_fs q x 0 0 [.inl false, .inr 1, .inl false, .inl false, .inr 2, .inr 3, .inr 4, .inr 5, .inl false, .inr 6, .inr 7, .inl false, .inr 8, .inr 9, .inr 10, .inl true, .inl false, .inr 11, .inr 12, .inr 13, .inr 14, .inr 15, .inr 16, .inr 17, .inr 18, .inl false, .inl false, .inr 19])) := nz_at (d := .inr (8, [.inl false, .inr 1, .inl false, .inl false, .inr 2, .inr 3, .inr 4, .inr 5, .inl false, .inr 6, .inr 7, .inl false, .inr 8, .inr 9, .inr 10, .inl true, .inl false, .inr 11, .inr 12, .inr 13, .inr 14, .inr 15, .inr 16, .inr 17, .inr 18, .inl false, .inl false, .inr 19])) rfl
theorem nz_Lcall7I (E : nz_LE κ L xs) {y : MethodName} {rm1 : Room} {bytes : ByteArray} {maxL index n : Nat} {ret1 : Option FieldType} {As rest : List Value} {r : Int32} (hM : nz_MI κ.1.2.1 y (nz_T y bytes maxL ret1) rm1 κ.2.2.1 κ.2.2.2.1 nz_tK (.ref (κ.2.2.2.1 0) :: As) xk (r, xk1)) (h1 : Cond.methodLink R_law index y ∈ nz_G) (h2 : Cond.instanceMethod y ∈ nz_G) (h3 : Cond.selects RX7 y y ∈ nz_G) (h4 : Cond.initialized y.cls ∈ nz_G) (h5 : Cond.code y bytes maxL ret1 ∈ nz_G) (hd : nz_dsc y n) (hR : rm1.frames + 1 ≤ room_1.frames ∧ 8 + (maxL + 11) + rm1.locals ≤ room_1.locals) (hrc : rm1.cells = 0) (hrs : rm1.slots = 0) (hn : As.length = n) (hst : st = As.reverse ++ .ref (κ.2.2.2.1 0) :: rest) (hw : (rest.map fun v => v.category).sum ≤ 8) (d : decode code pc = .ok (.invokevirtual index, 3)) (k : nz_Ls κ (pc + 3) lv (.int r :: rest) xk1 xm) : nz_Ls κ pc lv st xk xm := fun H locs ls hP hl => by
  have cw : CallW room_1 κ.1.2.2.2 #[Value.ref κ.2.1.2.2.2.2] R_law RX7 index y bytes maxL ret1 (nz_T y bytes maxL ret1) rm1 0 0 n := ⟨callB_of n E.hts (nz_goodL h5) rfl hrc hrs (E.hts _ (nz_G_tbl h4)) (E.hts _ (nz_G_tbl h1)) hd hR, E.hts _ (nz_G_tbl h2), E.hts _ (nz_G_tbl h3)⟩
  have hz : κ.1.2.2.2.heap.size ≤ H.size := hP.2.2.2.2.2.1
  have hAA : ∀ z, nz_A nz_tK κ.2.2.2.1 H.size z → nz_A0 κ.1.2.2.2 z := fun z h => by
    rcases h with ⟨i, hi, e⟩ | h
    · rw [e]
      exact hP.2.2.1.2 i _ (nz_at (w := κ.2.2.1) (q := κ.2.2.2.1) (x := xk) (List.getElem?_eq_getElem hi))
    · exact Nat.le_trans hz h
  refine va_calli (va_runV (As := As) (rest := rest) ⟨E.hx, E.hb, E.hml, E.hown, E.hts⟩ (hM H.size) cw ⟨nz_blind, va_recv (ci := 7) E.hK hP.1 (q := (RX7, TX7, 8)) rfl nz_recvK, fun U hU hW => ⟨rfl, by rw [hU], by rw [hU]; exact hP.1, va_K.moved hW.alike E.hK, hP.2.2.1.weaken (fun _ _ _ _ => trivial), E.hN.warm hW⟩⟩ rfl hn hl.1 hst (lv_room hw) d ⟨Nat.le_of_ble_eq_true rfl, Nat.le_of_ble_eq_true rfl⟩) hP.2.2.2.2.2 (fun z _ h => hAA z h) hAA (fun r2 u t H1 locs1 ht hvm hp hB hz1 hk hS1 => ?_)
  subst hp
  have h1 : va_P κ.2.2.1.1 nz_cl (nz_W κ.2.2.1 κ.2.2.2.1 xk1 nz_tK) H1 := by rw [← ht]; exact hB.1
  have h2 : va_D (nz_A0 κ.1.2.2.2) (nz_W κ.2.2.1 κ.2.2.2.1 xk1 nz_tK) := hB.2.2.weaken (fun _ _ _ h => hAA _ h)
  exact k H1 locs1 ls ⟨h1, nz_keep1 (s := κ.1.2.2.2) hP.2.2.2.2.1 hP.2.1 hk, h2, hP.2.2.2.1, hP.2.2.2.2.1, hS1⟩ hl
theorem nz_Lcall8I (E : nz_LE κ L xs) {y : MethodName} {rm1 : Room} {bytes : ByteArray} {maxL index n : Nat} {ret1 : Option FieldType} {As rest : List Value} {r : Int32} (hM : nz_MI κ.1.2.1 y (nz_T y bytes maxL ret1) rm1 κ.2.2.1 κ.2.2.2.2 nz_tM (.ref (κ.2.2.2.2 0) :: As) xm (r, xm1)) (h1 : Cond.methodLink R_law index y ∈ nz_G) (h2 : Cond.instanceMethod y ∈ nz_G) (h3 : Cond.selects RX8 y y ∈ nz_G) (h4 : Cond.initialized y.cls ∈ nz_G) (h5 : Cond.code y bytes maxL ret1 ∈ nz_G) (hd : nz_dsc y n) (hR : rm1.frames + 1 ≤ room_1.frames ∧ 8 + (maxL + 11) + rm1.locals ≤ room_1.locals) (hrc : rm1.cells = 0) (hrs : rm1.slots = 0) (hn : As.length = n) (hst : st = As.reverse ++ .ref (κ.2.2.2.2 0) :: rest) (hw : (rest.map fun v => v.category).sum ≤ 8) (d : decode code pc = .ok (.invokevirtual index, 3)) (k : nz_Ls κ (pc + 3) lv (.int r :: rest) xk xm1) : nz_Ls κ pc lv st xk xm := fun H locs ls hP hl => by
  have cw : CallW room_1 κ.1.2.2.2 #[Value.ref κ.2.1.2.2.2.2] R_law RX8 index y bytes maxL ret1 (nz_T y bytes maxL ret1) rm1 0 0 n := ⟨callB_of n E.hts (nz_goodL h5) rfl hrc hrs (E.hts _ (nz_G_tbl h4)) (E.hts _ (nz_G_tbl h1)) hd hR, E.hts _ (nz_G_tbl h2), E.hts _ (nz_G_tbl h3)⟩
  have hz : κ.1.2.2.2.heap.size ≤ H.size := hP.2.2.2.2.2.1
  have hAA : ∀ z, nz_A nz_tM κ.2.2.2.2 H.size z → nz_A0 κ.1.2.2.2 z := fun z h => by
    rcases h with ⟨i, hi, e⟩ | h
    · rw [e]
      exact hP.2.2.2.1.2 i _ (nz_at (w := κ.2.2.1) (q := κ.2.2.2.2) (x := xm) (List.getElem?_eq_getElem hi))
    · exact Nat.le_trans hz h
  refine va_calli (va_runV (As := As) (rest := rest) ⟨E.hx, E.hb, E.hml, E.hown, E.hts⟩ (hM H.size) cw ⟨nz_blind, va_recv (ci := 8) E.hK hP.2.1 (q := (RX8, TX8, 28)) rfl nz_recvM, fun U hU hW => ⟨rfl, by rw [hU], by rw [hU]; exact hP.2.1, va_K.moved hW.alike E.hK, hP.2.2.2.1.weaken (fun _ _ _ _ => trivial), E.hN.warm hW⟩⟩ rfl hn hl.1 hst (lv_room hw) d ⟨Nat.le_of_ble_eq_true rfl, Nat.le_of_ble_eq_true rfl⟩) hP.2.2.2.2.2 (fun z _ h => hAA z h) hAA (fun r2 u t H1 locs1 ht hvm hp hB hz1 hk hS1 => ?_)
  subst hp
  have h1 : va_P κ.2.2.1.1 nz_cl (nz_W κ.2.2.1 κ.2.2.2.2 xm1 nz_tM) H1 := by rw [← ht]; exact hB.1
  have h2 : va_D (nz_A0 κ.1.2.2.2) (nz_W κ.2.2.1 κ.2.2.2.2 xm1 nz_tM) := hB.2.2.weaken (fun _ _ _ h => hAA _ h)
  exact k H1 locs1 ls ⟨nz_keep1 (s := κ.1.2.2.2) (fun i j hi hj e => hP.2.2.2.2.1 j i hj hi e.symm) hP.1 hk, h1, hP.2.2.1, h2, hP.2.2.2.2.1, hS1⟩ hl
theorem nz_Lcall7L (E : nz_LE κ L xs) {y : MethodName} {rm1 : Room} {bytes : ByteArray} {maxL index n : Nat} {ret1 : Option FieldType} {As rest : List Value} {r : Int64} (hM : nz_ML κ.1.2.1 y (nz_T y bytes maxL ret1) rm1 κ.2.2.1 κ.2.2.2.1 nz_tK (.ref (κ.2.2.2.1 0) :: As) xk (r, xk1)) (h1 : Cond.methodLink R_law index y ∈ nz_G) (h2 : Cond.instanceMethod y ∈ nz_G) (h3 : Cond.selects RX7 y y ∈ nz_G) (h4 : Cond.initialized y.cls ∈ nz_G) (h5 : Cond.code y bytes maxL ret1 ∈ nz_G) (hd : nz_dsc y n) (hR : rm1.frames + 1 ≤ room_1.frames ∧ 8 + (maxL + 11) + rm1.locals ≤ room_1.locals) (hrc : rm1.cells = 0) (hrs : rm1.slots = 0) (hn : As.length = n) (hst : st = As.reverse ++ .ref (κ.2.2.2.1 0) :: rest) (hw : (rest.map fun v => v.category).sum ≤ 8) (d : decode code pc = .ok (.invokevirtual index, 3)) (k : nz_Ls κ (pc + 3) lv (.long r :: rest) xk1 xm) : nz_Ls κ pc lv st xk xm := fun H locs ls hP hl => by
  have cw : CallW room_1 κ.1.2.2.2 #[Value.ref κ.2.1.2.2.2.2] R_law RX7 index y bytes maxL ret1 (nz_T y bytes maxL ret1) rm1 0 0 n := ⟨callB_of n E.hts (nz_goodL h5) rfl hrc hrs (E.hts _ (nz_G_tbl h4)) (E.hts _ (nz_G_tbl h1)) hd hR, E.hts _ (nz_G_tbl h2), E.hts _ (nz_G_tbl h3)⟩
  have hz : κ.1.2.2.2.heap.size ≤ H.size := hP.2.2.2.2.2.1
  have hAA : ∀ z, nz_A nz_tK κ.2.2.2.1 H.size z → nz_A0 κ.1.2.2.2 z := fun z h => by
    rcases h with ⟨i, hi, e⟩ | h
    · rw [e]
      exact hP.2.2.1.2 i _ (nz_at (w := κ.2.2.1) (q := κ.2.2.2.1) (x := xk) (List.getElem?_eq_getElem hi))
    · exact Nat.le_trans hz h
  refine va_calll (va_runV (As := As) (rest := rest) ⟨E.hx, E.hb, E.hml, E.hown, E.hts⟩ (hM H.size) cw ⟨nz_blind, va_recv (ci := 7) E.hK hP.1 (q := (RX7, TX7, 8)) rfl nz_recvK, fun U hU hW => ⟨rfl, by rw [hU], by rw [hU]; exact hP.1, va_K.moved hW.alike E.hK, hP.2.2.1.weaken (fun _ _ _ _ => trivial), E.hN.warm hW⟩⟩ rfl hn hl.1 hst (lv_room hw) d ⟨Nat.le_of_ble_eq_true rfl, Nat.le_of_ble_eq_true rfl⟩) hP.2.2.2.2.2 (fun z _ h => hAA z h) hAA (fun r2 u t H1 locs1 ht hvm hp hB hz1 hk hS1 => ?_)
  subst hp
  have h1 : va_P κ.2.2.1.1 nz_cl (nz_W κ.2.2.1 κ.2.2.2.1 xk1 nz_tK) H1 := by rw [← ht]; exact hB.1
  have h2 : va_D (nz_A0 κ.1.2.2.2) (nz_W κ.2.2.1 κ.2.2.2.1 xk1 nz_tK) := hB.2.2.weaken (fun _ _ _ h => hAA _ h)
  exact k H1 locs1 ls ⟨h1, nz_keep1 (s := κ.1.2.2.2) hP.2.2.2.2.1 hP.2.1 hk, h2, hP.2.2.2.1, hP.2.2.2.2.1, hS1⟩ hl
theorem nz_Lcall8L (E : nz_LE κ L xs) {y : MethodName} {rm1 : Room} {bytes : ByteArray} {maxL index n : Nat} {ret1 : Option FieldType} {As rest : List Value} {r : Int64} (hM : nz_ML κ.1.2.1 y (nz_T y bytes maxL ret1) rm1 κ.2.2.1 κ.2.2.2.2 nz_tM (.ref (κ.2.2.2.2 0) :: As) xm (r, xm1)) (h1 : Cond.methodLink R_law index y ∈ nz_G) (h2 : Cond.instanceMethod y ∈ nz_G) (h3 : Cond.selects RX8 y y ∈ nz_G) (h4 : Cond.initialized y.cls ∈ nz_G) (h5 : Cond.code y bytes maxL ret1 ∈ nz_G) (hd : nz_dsc y n) (hR : rm1.frames + 1 ≤ room_1.frames ∧ 8 + (maxL + 11) + rm1.locals ≤ room_1.locals) (hrc : rm1.cells = 0) (hrs : rm1.slots = 0) (hn : As.length = n) (hst : st = As.reverse ++ .ref (κ.2.2.2.2 0) :: rest) (hw : (rest.map fun v => v.category).sum ≤ 8) (d : decode code pc = .ok (.invokevirtual index, 3)) (k : nz_Ls κ (pc + 3) lv (.long r :: rest) xk xm1) : nz_Ls κ pc lv st xk xm := fun H locs ls hP hl => by
  have cw : CallW room_1 κ.1.2.2.2 #[Value.ref κ.2.1.2.2.2.2] R_law RX8 index y bytes maxL ret1 (nz_T y bytes maxL ret1) rm1 0 0 n := ⟨callB_of n E.hts (nz_goodL h5) rfl hrc hrs (E.hts _ (nz_G_tbl h4)) (E.hts _ (nz_G_tbl h1)) hd hR, E.hts _ (nz_G_tbl h2), E.hts _ (nz_G_tbl h3)⟩
  have hz : κ.1.2.2.2.heap.size ≤ H.size := hP.2.2.2.2.2.1
  have hAA : ∀ z, nz_A nz_tM κ.2.2.2.2 H.size z → nz_A0 κ.1.2.2.2 z := fun z h => by
    rcases h with ⟨i, hi, e⟩ | h
    · rw [e]
      exact hP.2.2.2.1.2 i _ (nz_at (w := κ.2.2.1) (q := κ.2.2.2.2) (x := xm) (List.getElem?_eq_getElem hi))
    · exact Nat.le_trans hz h
  refine va_calll (va_runV (As := As) (rest := rest) ⟨E.hx, E.hb, E.hml, E.hown, E.hts⟩ (hM H.size) cw ⟨nz_blind, va_recv (ci := 8) E.hK hP.2.1 (q := (RX8, TX8, 28)) rfl nz_recvM, fun U hU hW => ⟨rfl, by rw [hU], by rw [hU]; exact hP.2.1, va_K.moved hW.alike E.hK, hP.2.2.2.1.weaken (fun _ _ _ _ => trivial), E.hN.warm hW⟩⟩ rfl hn hl.1 hst (lv_room hw) d ⟨Nat.le_of_ble_eq_true rfl, Nat.le_of_ble_eq_true rfl⟩) hP.2.2.2.2.2 (fun z _ h => hAA z h) hAA (fun r2 u t H1 locs1 ht hvm hp hB hz1 hk hS1 => ?_)
  subst hp
  have h1 : va_P κ.2.2.1.1 nz_cl (nz_W κ.2.2.1 κ.2.2.2.2 xm1 nz_tM) H1 := by rw [← ht]; exact hB.1
  have h2 : va_D (nz_A0 κ.1.2.2.2) (nz_W κ.2.2.1 κ.2.2.2.2 xm1 nz_tM) := hB.2.2.weaken (fun _ _ _ h => hAA _ h)
  exact k H1 locs1 ls ⟨nz_keep1 (s := κ.1.2.2.2) (fun i j hi hj e => hP.2.2.2.2.1 j i hj hi e.symm) hP.1 hk, h1, hP.2.2.1, h2, hP.2.2.2.2.1, hS1⟩ hl
end NZL
def nz_both {α : Type} (R : nz_S → nz_S → Prop) (a b : Option (α × nz_S)) : Prop := ∃ r xk xm, a = some (r, xk) ∧ b = some (r, xm) ∧ R xk xm
def nz_Sim (R : nz_S → nz_S → Prop) : Prop := R nz_x0 nz_x0 ∧ (∀ (a0 : Int32) (xk xm : nz_S), R xk xm → nz_both R (f_X7_write a0 xk) (f_X8_write a0 xm)) ∧ (∀ (xk xm : nz_S), R xk xm → nz_both R (f_X7_wipe xk) (f_X8_wipe xm)) ∧ (∀ (xk xm : nz_S), R xk xm → nz_both R (f_X7_fault xk) (f_X8_fault xm)) ∧ (∀ (xk xm : nz_S), R xk xm → nz_both R (f_X7_graph xk) (f_X8_graph xm)) ∧ (∀ (a0 : Int32) (xk xm : nz_S), R xk xm → nz_both R (f_X7_about a0 xk) (f_X8_about a0 xm)) ∧ (∀ (a0 : Int32) (a1 : Int32) (xk xm : nz_S), R xk xm → nz_both R (f_X7_block a0 a1 xk) (f_X8_block a0 a1 xm)) ∧ (∀ (a0 : Int32) (a1 : Int32) (xk xm : nz_S), R xk xm → nz_both R (f_X7_arc a0 a1 xk) (f_X8_arc a0 a1 xm)) ∧ (∀ (a0 : Int32) (a1 : Int32) (xk xm : nz_S), R xk xm → nz_both R (f_X7_sets a0 a1 xk) (f_X8_sets a0 a1 xm)) ∧ (∀ (a0 : Int32) (a1 : Int32) (xk xm : nz_S), R xk xm → nz_both R (f_X7_add a0 a1 xk) (f_X8_add a0 a1 xm)) ∧ (∀ (a0 : Int32) (a1 : Int32) (xk xm : nz_S), R xk xm → nz_both R (f_X7_cut a0 a1 xk) (f_X8_cut a0 a1 xm)) ∧ (∀ (a0 : Int32) (a1 : Int32) (xk xm : nz_S), R xk xm → nz_both R (f_X7_split a0 a1 xk) (f_X8_split a0 a1 xm)) ∧ (∀ (xk xm : nz_S), R xk xm → nz_both R (f_X7_mend xk) (f_X8_mend xm)) ∧ (∀ (xk xm : nz_S), R xk xm → nz_both R (f_X7_undo xk) (f_X8_undo xm)) ∧ (∀ (a0 : Int32) (a1 : Int32) (a2 : Int32) (xk xm : nz_S), R xk xm → nz_both R (f_X7_run a0 a1 a2 xk) (f_X8_run a0 a1 a2 xm)) ∧ (∀ (a0 : Int32) (xk xm : nz_S), R xk xm → nz_both R (f_X7_would a0 xk) (f_X8_would a0 xm)) ∧ (∀ (a0 : Int32) (a1 : Int64) (xk xm : nz_S), R xk xm → nz_both R (f_X7_judge a0 a1 xk) (f_X8_judge a0 a1 xm)) ∧ (∀ (a0 : Int32) (a1 : Int32) (a2 : Int32) (xk xm : nz_S), R xk xm → nz_both R (f_X7_share a0 a1 a2 xk) (f_X8_share a0 a1 a2 xm)) ∧ (∀ (a0 : Int32) (a1 : Int32) (a2 : Int32) (xk xm : nz_S), R xk xm → nz_both R (f_X7_see a0 a1 a2 xk) (f_X8_see a0 a1 a2 xm)) ∧ (∀ (xk xm : nz_S), R xk xm → nz_both R (f_X7_unsee xk) (f_X8_unsee xm)) ∧ (∀ (a0 : Int32) (xk xm : nz_S), R xk xm → nz_both R (f_X7_rows a0 xk) (f_X8_rows a0 xm)) ∧ (∀ (a0 : Int32) (a1 : Int32) (a2 : Int32) (xk xm : nz_S), R xk xm → nz_both R (f_X7_torn a0 a1 a2 xk) (f_X8_torn a0 a1 a2 xm)) ∧ (∀ (a0 : Int64) (xk xm : nz_S), R xk xm → nz_both R (f_X7_seed a0 xk) (f_X8_seed a0 xm)) ∧ (∀ (a0 : Int32) (xk xm : nz_S), R xk xm → nz_both R (f_X7_drawn a0 xk) (f_X8_drawn a0 xm)) ∧ (∀ (a0 : Int32) (xk xm : nz_S), R xk xm → nz_both R (f_X7_keep a0 xk) (f_X8_keep a0 xm)) ∧ (∀ (a0 : Int32) (xk xm : nz_S), R xk xm → nz_both R (f_X7_again a0 xk) (f_X8_again a0 xm))
set_option maxHeartbeats 4000000 in
set_option maxRecDepth 20000 in
theorem nz_case_write {κ : nz_LC} {L : Nat} {xs : Nat → Int32} (E : nz_LE κ L xs) {R : nz_S → nz_S → Prop} (h : ∀ (a0 : Int32) (xk xm : nz_S), R xk xm → nz_both R (f_X7_write a0 xk) (f_X8_write a0 xm)) {xk xm : nz_S} (hR : R xk xm) {iv : Int32} (hi1 : vp_in (iv + 1) L) (hi2 : vp_in (iv + 2) L) (hi3 : vp_in (iv + 3) L) (hK : ∀ (_ : Int32) (xk xm : nz_S), R xk xm → nz_Ls κ 906 [(0, .ref κ.2.1.2.2.2.2), (1, .ref (κ.2.2.2.1 0)), (2, .ref (κ.2.2.2.2 0)), (3, .int iv)] [] xk xm) : nz_Ls κ 148 [(0, .ref κ.2.1.2.2.2.2), (1, .ref (κ.2.2.2.1 0)), (2, .ref (κ.2.2.2.2 0)), (3, .int iv)] [] xk xm := by
  refine nz_Laload_n (pc := 148) (i := 1) E dL_law_148 rfl rfl ?_
  refine nz_Laload_n (pc := 149) (i := 0) E dL_law_149 rfl rfl ?_
  refine nz_Liload_n (pc := 150) (i := 3) E dL_law_150 rfl rfl ?_
  refine nz_Liconst (pc := 151) (v := 1) E dL_law_151 (by decide) ?_
  refine nz_Liadd (pc := 152) E dL_law_152 ?_
  refine nz_Lsld (pc := 153) E hi1 dL_law_153 ?_
  obtain ⟨r, xk1, xm1, e1, e2, hR1⟩ := h _ xk xm hR
  refine nz_Lcall7I (pc := 154) (As := [.int _]) E (k_X7_write _ _ _ e1) nz_w273 nz_w274 nz_w275 nz_w58 nz_w276 ds_X7_write ⟨Nat.le_of_ble_eq_true rfl, Nat.le_of_ble_eq_true rfl⟩ rfl rfl rfl rfl (Nat.le_of_ble_eq_true rfl) dL_law_154 ?_
  refine nz_Laload_n (pc := 157) (i := 2) E dL_law_157 rfl rfl ?_
  refine nz_Laload_n (pc := 158) (i := 0) E dL_law_158 rfl rfl ?_
  refine nz_Liload_n (pc := 159) (i := 3) E dL_law_159 rfl rfl ?_
  refine nz_Liconst (pc := 160) (v := 1) E dL_law_160 (by decide) ?_
  refine nz_Liadd (pc := 161) E dL_law_161 ?_
  refine nz_Lsld (pc := 162) E hi1 dL_law_162 ?_
  refine nz_Lcall8I (pc := 163) (As := [.int _]) E (k_X8_write _ _ _ e2) nz_w761 nz_w762 nz_w763 nz_w67 nz_w764 ds_X8_write ⟨Nat.le_of_ble_eq_true rfl, Nat.le_of_ble_eq_true rfl⟩ rfl rfl rfl rfl (Nat.le_of_ble_eq_true rfl) dL_law_163 ?_
  refine nz_LeqT (pc := 166) (tgt := 906) E dL_law_166 (by decide) ?_
  exact hK r xk1 xm1 hR1
set_option maxHeartbeats 4000000 in
set_option maxRecDepth 20000 in
theorem nz_case_wipe {κ : nz_LC} {L : Nat} {xs : Nat → Int32} (E : nz_LE κ L xs) {R : nz_S → nz_S → Prop} (h : ∀ (xk xm : nz_S), R xk xm → nz_both R (f_X7_wipe xk) (f_X8_wipe xm)) {xk xm : nz_S} (hR : R xk xm) {iv : Int32} (hi1 : vp_in (iv + 1) L) (hi2 : vp_in (iv + 2) L) (hi3 : vp_in (iv + 3) L) (hK : ∀ (_ : Int32) (xk xm : nz_S), R xk xm → nz_Ls κ 906 [(0, .ref κ.2.1.2.2.2.2), (1, .ref (κ.2.2.2.1 0)), (2, .ref (κ.2.2.2.2 0)), (3, .int iv)] [] xk xm) : nz_Ls κ 171 [(0, .ref κ.2.1.2.2.2.2), (1, .ref (κ.2.2.2.1 0)), (2, .ref (κ.2.2.2.2 0)), (3, .int iv)] [] xk xm := by
  refine nz_Laload_n (pc := 171) (i := 1) E dL_law_171 rfl rfl ?_
  obtain ⟨r, xk1, xm1, e1, e2, hR1⟩ := h  xk xm hR
  refine nz_Lcall7I (pc := 172) (As := []) E (k_X7_wipe _ _ e1) nz_w281 nz_w282 nz_w283 nz_w58 nz_w284 ds_X7_wipe ⟨Nat.le_of_ble_eq_true rfl, Nat.le_of_ble_eq_true rfl⟩ rfl rfl rfl rfl (Nat.le_of_ble_eq_true rfl) dL_law_172 ?_
  refine nz_Laload_n (pc := 175) (i := 2) E dL_law_175 rfl rfl ?_
  refine nz_Lcall8I (pc := 176) (As := []) E (k_X8_wipe _ _ e2) nz_w769 nz_w770 nz_w771 nz_w67 nz_w772 ds_X8_wipe ⟨Nat.le_of_ble_eq_true rfl, Nat.le_of_ble_eq_true rfl⟩ rfl rfl rfl rfl (Nat.le_of_ble_eq_true rfl) dL_law_176 ?_
  refine nz_LeqT (pc := 179) (tgt := 906) E dL_law_179 (by decide) ?_
  exact hK r xk1 xm1 hR1
set_option maxHeartbeats 4000000 in
set_option maxRecDepth 20000 in
theorem nz_case_fault {κ : nz_LC} {L : Nat} {xs : Nat → Int32} (E : nz_LE κ L xs) {R : nz_S → nz_S → Prop} (h : ∀ (xk xm : nz_S), R xk xm → nz_both R (f_X7_fault xk) (f_X8_fault xm)) {xk xm : nz_S} (hR : R xk xm) {iv : Int32} (hi1 : vp_in (iv + 1) L) (hi2 : vp_in (iv + 2) L) (hi3 : vp_in (iv + 3) L) (hK : ∀ (_ : Int32) (xk xm : nz_S), R xk xm → nz_Ls κ 906 [(0, .ref κ.2.1.2.2.2.2), (1, .ref (κ.2.2.2.1 0)), (2, .ref (κ.2.2.2.2 0)), (3, .int iv)] [] xk xm) : nz_Ls κ 184 [(0, .ref κ.2.1.2.2.2.2), (1, .ref (κ.2.2.2.1 0)), (2, .ref (κ.2.2.2.2 0)), (3, .int iv)] [] xk xm := by
  refine nz_Laload_n (pc := 184) (i := 1) E dL_law_184 rfl rfl ?_
  obtain ⟨r, xk1, xm1, e1, e2, hR1⟩ := h  xk xm hR
  refine nz_Lcall7I (pc := 185) (As := []) E (k_X7_fault _ _ e1) nz_w289 nz_w290 nz_w291 nz_w58 nz_w292 ds_X7_fault ⟨Nat.le_of_ble_eq_true rfl, Nat.le_of_ble_eq_true rfl⟩ rfl rfl rfl rfl (Nat.le_of_ble_eq_true rfl) dL_law_185 ?_
  refine nz_Laload_n (pc := 188) (i := 2) E dL_law_188 rfl rfl ?_
  refine nz_Lcall8I (pc := 189) (As := []) E (k_X8_fault _ _ e2) nz_w773 nz_w774 nz_w775 nz_w67 nz_w776 ds_X8_fault ⟨Nat.le_of_ble_eq_true rfl, Nat.le_of_ble_eq_true rfl⟩ rfl rfl rfl rfl (Nat.le_of_ble_eq_true rfl) dL_law_189 ?_
  refine nz_LeqT (pc := 192) (tgt := 906) E dL_law_192 (by decide) ?_
  exact hK r xk1 xm1 hR1
set_option maxHeartbeats 4000000 in
set_option maxRecDepth 20000 in
theorem nz_case_graph {κ : nz_LC} {L : Nat} {xs : Nat → Int32} (E : nz_LE κ L xs) {R : nz_S → nz_S → Prop} (h : ∀ (xk xm : nz_S), R xk xm → nz_both R (f_X7_graph xk) (f_X8_graph xm)) {xk xm : nz_S} (hR : R xk xm) {iv : Int32} (hi1 : vp_in (iv + 1) L) (hi2 : vp_in (iv + 2) L) (hi3 : vp_in (iv + 3) L) (hK : ∀ (_ : Int32) (xk xm : nz_S), R xk xm → nz_Ls κ 906 [(0, .ref κ.2.1.2.2.2.2), (1, .ref (κ.2.2.2.1 0)), (2, .ref (κ.2.2.2.2 0)), (3, .int iv)] [] xk xm) : nz_Ls κ 197 [(0, .ref κ.2.1.2.2.2.2), (1, .ref (κ.2.2.2.1 0)), (2, .ref (κ.2.2.2.2 0)), (3, .int iv)] [] xk xm := by
  refine nz_Laload_n (pc := 197) (i := 1) E dL_law_197 rfl rfl ?_
  obtain ⟨r, xk1, xm1, e1, e2, hR1⟩ := h  xk xm hR
  refine nz_Lcall7I (pc := 198) (As := []) E (k_X7_graph _ _ e1) nz_w312 nz_w313 nz_w314 nz_w58 nz_w315 ds_X7_graph ⟨Nat.le_of_ble_eq_true rfl, Nat.le_of_ble_eq_true rfl⟩ rfl rfl rfl rfl (Nat.le_of_ble_eq_true rfl) dL_law_198 ?_
  refine nz_Laload_n (pc := 201) (i := 2) E dL_law_201 rfl rfl ?_
  refine nz_Lcall8I (pc := 202) (As := []) E (k_X8_graph _ _ e2) nz_w792 nz_w793 nz_w794 nz_w67 nz_w795 ds_X8_graph ⟨Nat.le_of_ble_eq_true rfl, Nat.le_of_ble_eq_true rfl⟩ rfl rfl rfl rfl (Nat.le_of_ble_eq_true rfl) dL_law_202 ?_
  refine nz_LeqT (pc := 205) (tgt := 906) E dL_law_205 (by decide) ?_
  exact hK r xk1 xm1 hR1
set_option maxHeartbeats 4000000 in
set_option maxRecDepth 20000 in
theorem nz_case_about {κ : nz_LC} {L : Nat} {xs : Nat → Int32} (E : nz_LE κ L xs) {R : nz_S → nz_S → Prop} (h : ∀ (a0 : Int32) (xk xm : nz_S), R xk xm → nz_both R (f_X7_about a0 xk) (f_X8_about a0 xm)) {xk xm : nz_S} (hR : R xk xm) {iv : Int32} (hi1 : vp_in (iv + 1) L) (hi2 : vp_in (iv + 2) L) (hi3 : vp_in (iv + 3) L) (hK : ∀ (_ : Int32) (xk xm : nz_S), R xk xm → nz_Ls κ 906 [(0, .ref κ.2.1.2.2.2.2), (1, .ref (κ.2.2.2.1 0)), (2, .ref (κ.2.2.2.2 0)), (3, .int iv)] [] xk xm) : nz_Ls κ 210 [(0, .ref κ.2.1.2.2.2.2), (1, .ref (κ.2.2.2.1 0)), (2, .ref (κ.2.2.2.2 0)), (3, .int iv)] [] xk xm := by
  refine nz_Laload_n (pc := 210) (i := 1) E dL_law_210 rfl rfl ?_
  refine nz_Laload_n (pc := 211) (i := 0) E dL_law_211 rfl rfl ?_
  refine nz_Liload_n (pc := 212) (i := 3) E dL_law_212 rfl rfl ?_
  refine nz_Liconst (pc := 213) (v := 1) E dL_law_213 (by decide) ?_
  refine nz_Liadd (pc := 214) E dL_law_214 ?_
  refine nz_Lsld (pc := 215) E hi1 dL_law_215 ?_
  obtain ⟨r, xk1, xm1, e1, e2, hR1⟩ := h _ xk xm hR
  refine nz_Lcall7I (pc := 216) (As := [.int _]) E (k_X7_about _ _ _ e1) nz_w331 nz_w332 nz_w333 nz_w58 nz_w334 ds_X7_about ⟨Nat.le_of_ble_eq_true rfl, Nat.le_of_ble_eq_true rfl⟩ rfl rfl rfl rfl (Nat.le_of_ble_eq_true rfl) dL_law_216 ?_
  refine nz_Laload_n (pc := 219) (i := 2) E dL_law_219 rfl rfl ?_
  refine nz_Laload_n (pc := 220) (i := 0) E dL_law_220 rfl rfl ?_
  refine nz_Liload_n (pc := 221) (i := 3) E dL_law_221 rfl rfl ?_
  refine nz_Liconst (pc := 222) (v := 1) E dL_law_222 (by decide) ?_
  refine nz_Liadd (pc := 223) E dL_law_223 ?_
  refine nz_Lsld (pc := 224) E hi1 dL_law_224 ?_
  refine nz_Lcall8I (pc := 225) (As := [.int _]) E (k_X8_about _ _ _ e2) nz_w796 nz_w797 nz_w798 nz_w67 nz_w799 ds_X8_about ⟨Nat.le_of_ble_eq_true rfl, Nat.le_of_ble_eq_true rfl⟩ rfl rfl rfl rfl (Nat.le_of_ble_eq_true rfl) dL_law_225 ?_
  refine nz_LeqT (pc := 228) (tgt := 906) E dL_law_228 (by decide) ?_
  exact hK r xk1 xm1 hR1
set_option maxHeartbeats 4000000 in
set_option maxRecDepth 20000 in
theorem nz_case_block {κ : nz_LC} {L : Nat} {xs : Nat → Int32} (E : nz_LE κ L xs) {R : nz_S → nz_S → Prop} (h : ∀ (a0 : Int32) (a1 : Int32) (xk xm : nz_S), R xk xm → nz_both R (f_X7_block a0 a1 xk) (f_X8_block a0 a1 xm)) {xk xm : nz_S} (hR : R xk xm) {iv : Int32} (hi1 : vp_in (iv + 1) L) (hi2 : vp_in (iv + 2) L) (hi3 : vp_in (iv + 3) L) (hK : ∀ (_ : Int32) (xk xm : nz_S), R xk xm → nz_Ls κ 906 [(0, .ref κ.2.1.2.2.2.2), (1, .ref (κ.2.2.2.1 0)), (2, .ref (κ.2.2.2.2 0)), (3, .int iv)] [] xk xm) : nz_Ls κ 233 [(0, .ref κ.2.1.2.2.2.2), (1, .ref (κ.2.2.2.1 0)), (2, .ref (κ.2.2.2.2 0)), (3, .int iv)] [] xk xm := by
  refine nz_Laload_n (pc := 233) (i := 1) E dL_law_233 rfl rfl ?_
  refine nz_Laload_n (pc := 234) (i := 0) E dL_law_234 rfl rfl ?_
  refine nz_Liload_n (pc := 235) (i := 3) E dL_law_235 rfl rfl ?_
  refine nz_Liconst (pc := 236) (v := 1) E dL_law_236 (by decide) ?_
  refine nz_Liadd (pc := 237) E dL_law_237 ?_
  refine nz_Lsld (pc := 238) E hi1 dL_law_238 ?_
  refine nz_Laload_n (pc := 239) (i := 0) E dL_law_239 rfl rfl ?_
  refine nz_Liload_n (pc := 240) (i := 3) E dL_law_240 rfl rfl ?_
  refine nz_Liconst (pc := 241) (v := 2) E dL_law_241 (by decide) ?_
  refine nz_Liadd (pc := 242) E dL_law_242 ?_
  refine nz_Lsld (pc := 243) E hi2 dL_law_243 ?_
  obtain ⟨r, xk1, xm1, e1, e2, hR1⟩ := h _ _ xk xm hR
  refine nz_Lcall7I (pc := 244) (As := [.int _, .int _]) E (k_X7_block _ _ _ _ e1) nz_w414 nz_w415 nz_w416 nz_w58 nz_w417 ds_X7_block ⟨Nat.le_of_ble_eq_true rfl, Nat.le_of_ble_eq_true rfl⟩ rfl rfl rfl rfl (Nat.le_of_ble_eq_true rfl) dL_law_244 ?_
  refine nz_Laload_n (pc := 247) (i := 2) E dL_law_247 rfl rfl ?_
  refine nz_Laload_n (pc := 248) (i := 0) E dL_law_248 rfl rfl ?_
  refine nz_Liload_n (pc := 249) (i := 3) E dL_law_249 rfl rfl ?_
  refine nz_Liconst (pc := 250) (v := 1) E dL_law_250 (by decide) ?_
  refine nz_Liadd (pc := 251) E dL_law_251 ?_
  refine nz_Lsld (pc := 252) E hi1 dL_law_252 ?_
  refine nz_Laload_n (pc := 253) (i := 0) E dL_law_253 rfl rfl ?_
  refine nz_Liload_n (pc := 254) (i := 3) E dL_law_254 rfl rfl ?_
  refine nz_Liconst (pc := 255) (v := 2) E dL_law_255 (by decide) ?_
  refine nz_Liadd (pc := 256) E dL_law_256 ?_
  refine nz_Lsld (pc := 257) E hi2 dL_law_257 ?_
  refine nz_Lcall8I (pc := 258) (As := [.int _, .int _]) E (k_X8_block _ _ _ _ e2) nz_w871 nz_w872 nz_w873 nz_w67 nz_w874 ds_X8_block ⟨Nat.le_of_ble_eq_true rfl, Nat.le_of_ble_eq_true rfl⟩ rfl rfl rfl rfl (Nat.le_of_ble_eq_true rfl) dL_law_258 ?_
  refine nz_LeqT (pc := 261) (tgt := 906) E dL_law_261 (by decide) ?_
  exact hK r xk1 xm1 hR1
set_option maxHeartbeats 4000000 in
set_option maxRecDepth 20000 in
theorem nz_case_arc {κ : nz_LC} {L : Nat} {xs : Nat → Int32} (E : nz_LE κ L xs) {R : nz_S → nz_S → Prop} (h : ∀ (a0 : Int32) (a1 : Int32) (xk xm : nz_S), R xk xm → nz_both R (f_X7_arc a0 a1 xk) (f_X8_arc a0 a1 xm)) {xk xm : nz_S} (hR : R xk xm) {iv : Int32} (hi1 : vp_in (iv + 1) L) (hi2 : vp_in (iv + 2) L) (hi3 : vp_in (iv + 3) L) (hK : ∀ (_ : Int32) (xk xm : nz_S), R xk xm → nz_Ls κ 906 [(0, .ref κ.2.1.2.2.2.2), (1, .ref (κ.2.2.2.1 0)), (2, .ref (κ.2.2.2.2 0)), (3, .int iv)] [] xk xm) : nz_Ls κ 266 [(0, .ref κ.2.1.2.2.2.2), (1, .ref (κ.2.2.2.1 0)), (2, .ref (κ.2.2.2.2 0)), (3, .int iv)] [] xk xm := by
  refine nz_Laload_n (pc := 266) (i := 1) E dL_law_266 rfl rfl ?_
  refine nz_Laload_n (pc := 267) (i := 0) E dL_law_267 rfl rfl ?_
  refine nz_Liload_n (pc := 268) (i := 3) E dL_law_268 rfl rfl ?_
  refine nz_Liconst (pc := 269) (v := 1) E dL_law_269 (by decide) ?_
  refine nz_Liadd (pc := 270) E dL_law_270 ?_
  refine nz_Lsld (pc := 271) E hi1 dL_law_271 ?_
  refine nz_Laload_n (pc := 272) (i := 0) E dL_law_272 rfl rfl ?_
  refine nz_Liload_n (pc := 273) (i := 3) E dL_law_273 rfl rfl ?_
  refine nz_Liconst (pc := 274) (v := 2) E dL_law_274 (by decide) ?_
  refine nz_Liadd (pc := 275) E dL_law_275 ?_
  refine nz_Lsld (pc := 276) E hi2 dL_law_276 ?_
  obtain ⟨r, xk1, xm1, e1, e2, hR1⟩ := h _ _ xk xm hR
  refine nz_Lcall7I (pc := 277) (As := [.int _, .int _]) E (k_X7_arc _ _ _ _ e1) nz_w423 nz_w424 nz_w425 nz_w58 nz_w426 ds_X7_arc ⟨Nat.le_of_ble_eq_true rfl, Nat.le_of_ble_eq_true rfl⟩ rfl rfl rfl rfl (Nat.le_of_ble_eq_true rfl) dL_law_277 ?_
  refine nz_Laload_n (pc := 280) (i := 2) E dL_law_280 rfl rfl ?_
  refine nz_Laload_n (pc := 281) (i := 0) E dL_law_281 rfl rfl ?_
  refine nz_Liload_n (pc := 282) (i := 3) E dL_law_282 rfl rfl ?_
  refine nz_Liconst (pc := 283) (v := 1) E dL_law_283 (by decide) ?_
  refine nz_Liadd (pc := 284) E dL_law_284 ?_
  refine nz_Lsld (pc := 285) E hi1 dL_law_285 ?_
  refine nz_Laload_n (pc := 286) (i := 0) E dL_law_286 rfl rfl ?_
  refine nz_Liload_n (pc := 287) (i := 3) E dL_law_287 rfl rfl ?_
  refine nz_Liconst (pc := 288) (v := 2) E dL_law_288 (by decide) ?_
  refine nz_Liadd (pc := 289) E dL_law_289 ?_
  refine nz_Lsld (pc := 290) E hi2 dL_law_290 ?_
  refine nz_Lcall8I (pc := 291) (As := [.int _, .int _]) E (k_X8_arc _ _ _ _ e2) nz_w879 nz_w880 nz_w881 nz_w67 nz_w882 ds_X8_arc ⟨Nat.le_of_ble_eq_true rfl, Nat.le_of_ble_eq_true rfl⟩ rfl rfl rfl rfl (Nat.le_of_ble_eq_true rfl) dL_law_291 ?_
  refine nz_LeqT (pc := 294) (tgt := 906) E dL_law_294 (by decide) ?_
  exact hK r xk1 xm1 hR1
set_option maxHeartbeats 4000000 in
set_option maxRecDepth 20000 in
theorem nz_case_sets {κ : nz_LC} {L : Nat} {xs : Nat → Int32} (E : nz_LE κ L xs) {R : nz_S → nz_S → Prop} (h : ∀ (a0 : Int32) (a1 : Int32) (xk xm : nz_S), R xk xm → nz_both R (f_X7_sets a0 a1 xk) (f_X8_sets a0 a1 xm)) {xk xm : nz_S} (hR : R xk xm) {iv : Int32} (hi1 : vp_in (iv + 1) L) (hi2 : vp_in (iv + 2) L) (hi3 : vp_in (iv + 3) L) (hK : ∀ (_ : Int32) (xk xm : nz_S), R xk xm → nz_Ls κ 906 [(0, .ref κ.2.1.2.2.2.2), (1, .ref (κ.2.2.2.1 0)), (2, .ref (κ.2.2.2.2 0)), (3, .int iv)] [] xk xm) : nz_Ls κ 299 [(0, .ref κ.2.1.2.2.2.2), (1, .ref (κ.2.2.2.1 0)), (2, .ref (κ.2.2.2.2 0)), (3, .int iv)] [] xk xm := by
  refine nz_Laload_n (pc := 299) (i := 1) E dL_law_299 rfl rfl ?_
  refine nz_Laload_n (pc := 300) (i := 0) E dL_law_300 rfl rfl ?_
  refine nz_Liload_n (pc := 301) (i := 3) E dL_law_301 rfl rfl ?_
  refine nz_Liconst (pc := 302) (v := 1) E dL_law_302 (by decide) ?_
  refine nz_Liadd (pc := 303) E dL_law_303 ?_
  refine nz_Lsld (pc := 304) E hi1 dL_law_304 ?_
  refine nz_Laload_n (pc := 305) (i := 0) E dL_law_305 rfl rfl ?_
  refine nz_Liload_n (pc := 306) (i := 3) E dL_law_306 rfl rfl ?_
  refine nz_Liconst (pc := 307) (v := 2) E dL_law_307 (by decide) ?_
  refine nz_Liadd (pc := 308) E dL_law_308 ?_
  refine nz_Lsld (pc := 309) E hi2 dL_law_309 ?_
  obtain ⟨r, xk1, xm1, e1, e2, hR1⟩ := h _ _ xk xm hR
  refine nz_Lcall7I (pc := 310) (As := [.int _, .int _]) E (k_X7_sets _ _ _ _ e1) nz_w433 nz_w434 nz_w435 nz_w58 nz_w436 ds_X7_sets ⟨Nat.le_of_ble_eq_true rfl, Nat.le_of_ble_eq_true rfl⟩ rfl rfl rfl rfl (Nat.le_of_ble_eq_true rfl) dL_law_310 ?_
  refine nz_Laload_n (pc := 313) (i := 2) E dL_law_313 rfl rfl ?_
  refine nz_Laload_n (pc := 314) (i := 0) E dL_law_314 rfl rfl ?_
  refine nz_Liload_n (pc := 315) (i := 3) E dL_law_315 rfl rfl ?_
  refine nz_Liconst (pc := 316) (v := 1) E dL_law_316 (by decide) ?_
  refine nz_Liadd (pc := 317) E dL_law_317 ?_
  refine nz_Lsld (pc := 318) E hi1 dL_law_318 ?_
  refine nz_Laload_n (pc := 319) (i := 0) E dL_law_319 rfl rfl ?_
  refine nz_Liload_n (pc := 320) (i := 3) E dL_law_320 rfl rfl ?_
  refine nz_Liconst (pc := 321) (v := 2) E dL_law_321 (by decide) ?_
  refine nz_Liadd (pc := 322) E dL_law_322 ?_
  refine nz_Lsld (pc := 323) E hi2 dL_law_323 ?_
  refine nz_Lcall8I (pc := 324) (As := [.int _, .int _]) E (k_X8_sets _ _ _ _ e2) nz_w887 nz_w888 nz_w889 nz_w67 nz_w890 ds_X8_sets ⟨Nat.le_of_ble_eq_true rfl, Nat.le_of_ble_eq_true rfl⟩ rfl rfl rfl rfl (Nat.le_of_ble_eq_true rfl) dL_law_324 ?_
  refine nz_LeqT (pc := 327) (tgt := 906) E dL_law_327 (by decide) ?_
  exact hK r xk1 xm1 hR1
set_option maxHeartbeats 4000000 in
set_option maxRecDepth 20000 in
theorem nz_case_add {κ : nz_LC} {L : Nat} {xs : Nat → Int32} (E : nz_LE κ L xs) {R : nz_S → nz_S → Prop} (h : ∀ (a0 : Int32) (a1 : Int32) (xk xm : nz_S), R xk xm → nz_both R (f_X7_add a0 a1 xk) (f_X8_add a0 a1 xm)) {xk xm : nz_S} (hR : R xk xm) {iv : Int32} (hi1 : vp_in (iv + 1) L) (hi2 : vp_in (iv + 2) L) (hi3 : vp_in (iv + 3) L) (hK : ∀ (_ : Int32) (xk xm : nz_S), R xk xm → nz_Ls κ 906 [(0, .ref κ.2.1.2.2.2.2), (1, .ref (κ.2.2.2.1 0)), (2, .ref (κ.2.2.2.2 0)), (3, .int iv)] [] xk xm) : nz_Ls κ 332 [(0, .ref κ.2.1.2.2.2.2), (1, .ref (κ.2.2.2.1 0)), (2, .ref (κ.2.2.2.2 0)), (3, .int iv)] [] xk xm := by
  refine nz_Laload_n (pc := 332) (i := 1) E dL_law_332 rfl rfl ?_
  refine nz_Laload_n (pc := 333) (i := 0) E dL_law_333 rfl rfl ?_
  refine nz_Liload_n (pc := 334) (i := 3) E dL_law_334 rfl rfl ?_
  refine nz_Liconst (pc := 335) (v := 1) E dL_law_335 (by decide) ?_
  refine nz_Liadd (pc := 336) E dL_law_336 ?_
  refine nz_Lsld (pc := 337) E hi1 dL_law_337 ?_
  refine nz_Laload_n (pc := 338) (i := 0) E dL_law_338 rfl rfl ?_
  refine nz_Liload_n (pc := 339) (i := 3) E dL_law_339 rfl rfl ?_
  refine nz_Liconst (pc := 340) (v := 2) E dL_law_340 (by decide) ?_
  refine nz_Liadd (pc := 341) E dL_law_341 ?_
  refine nz_Lsld (pc := 342) E hi2 dL_law_342 ?_
  obtain ⟨r, xk1, xm1, e1, e2, hR1⟩ := h _ _ xk xm hR
  refine nz_Lcall7I (pc := 343) (As := [.int _, .int _]) E (k_X7_add _ _ _ _ e1) nz_w443 nz_w444 nz_w445 nz_w58 nz_w446 ds_X7_add ⟨Nat.le_of_ble_eq_true rfl, Nat.le_of_ble_eq_true rfl⟩ rfl rfl rfl rfl (Nat.le_of_ble_eq_true rfl) dL_law_343 ?_
  refine nz_Laload_n (pc := 346) (i := 2) E dL_law_346 rfl rfl ?_
  refine nz_Laload_n (pc := 347) (i := 0) E dL_law_347 rfl rfl ?_
  refine nz_Liload_n (pc := 348) (i := 3) E dL_law_348 rfl rfl ?_
  refine nz_Liconst (pc := 349) (v := 1) E dL_law_349 (by decide) ?_
  refine nz_Liadd (pc := 350) E dL_law_350 ?_
  refine nz_Lsld (pc := 351) E hi1 dL_law_351 ?_
  refine nz_Laload_n (pc := 352) (i := 0) E dL_law_352 rfl rfl ?_
  refine nz_Liload_n (pc := 353) (i := 3) E dL_law_353 rfl rfl ?_
  refine nz_Liconst (pc := 354) (v := 2) E dL_law_354 (by decide) ?_
  refine nz_Liadd (pc := 355) E dL_law_355 ?_
  refine nz_Lsld (pc := 356) E hi2 dL_law_356 ?_
  refine nz_Lcall8I (pc := 357) (As := [.int _, .int _]) E (k_X8_add _ _ _ _ e2) nz_w900 nz_w901 nz_w902 nz_w67 nz_w903 ds_X8_add ⟨Nat.le_of_ble_eq_true rfl, Nat.le_of_ble_eq_true rfl⟩ rfl rfl rfl rfl (Nat.le_of_ble_eq_true rfl) dL_law_357 ?_
  refine nz_LeqT (pc := 360) (tgt := 906) E dL_law_360 (by decide) ?_
  exact hK r xk1 xm1 hR1
set_option maxHeartbeats 4000000 in
set_option maxRecDepth 20000 in
theorem nz_case_cut {κ : nz_LC} {L : Nat} {xs : Nat → Int32} (E : nz_LE κ L xs) {R : nz_S → nz_S → Prop} (h : ∀ (a0 : Int32) (a1 : Int32) (xk xm : nz_S), R xk xm → nz_both R (f_X7_cut a0 a1 xk) (f_X8_cut a0 a1 xm)) {xk xm : nz_S} (hR : R xk xm) {iv : Int32} (hi1 : vp_in (iv + 1) L) (hi2 : vp_in (iv + 2) L) (hi3 : vp_in (iv + 3) L) (hK : ∀ (_ : Int32) (xk xm : nz_S), R xk xm → nz_Ls κ 906 [(0, .ref κ.2.1.2.2.2.2), (1, .ref (κ.2.2.2.1 0)), (2, .ref (κ.2.2.2.2 0)), (3, .int iv)] [] xk xm) : nz_Ls κ 365 [(0, .ref κ.2.1.2.2.2.2), (1, .ref (κ.2.2.2.1 0)), (2, .ref (κ.2.2.2.2 0)), (3, .int iv)] [] xk xm := by
  refine nz_Laload_n (pc := 365) (i := 1) E dL_law_365 rfl rfl ?_
  refine nz_Laload_n (pc := 366) (i := 0) E dL_law_366 rfl rfl ?_
  refine nz_Liload_n (pc := 367) (i := 3) E dL_law_367 rfl rfl ?_
  refine nz_Liconst (pc := 368) (v := 1) E dL_law_368 (by decide) ?_
  refine nz_Liadd (pc := 369) E dL_law_369 ?_
  refine nz_Lsld (pc := 370) E hi1 dL_law_370 ?_
  refine nz_Laload_n (pc := 371) (i := 0) E dL_law_371 rfl rfl ?_
  refine nz_Liload_n (pc := 372) (i := 3) E dL_law_372 rfl rfl ?_
  refine nz_Liconst (pc := 373) (v := 2) E dL_law_373 (by decide) ?_
  refine nz_Liadd (pc := 374) E dL_law_374 ?_
  refine nz_Lsld (pc := 375) E hi2 dL_law_375 ?_
  obtain ⟨r, xk1, xm1, e1, e2, hR1⟩ := h _ _ xk xm hR
  refine nz_Lcall7I (pc := 376) (As := [.int _, .int _]) E (k_X7_cut _ _ _ _ e1) nz_w464 nz_w465 nz_w466 nz_w58 nz_w467 ds_X7_cut ⟨Nat.le_of_ble_eq_true rfl, Nat.le_of_ble_eq_true rfl⟩ rfl rfl rfl rfl (Nat.le_of_ble_eq_true rfl) dL_law_376 ?_
  refine nz_Laload_n (pc := 379) (i := 2) E dL_law_379 rfl rfl ?_
  refine nz_Laload_n (pc := 380) (i := 0) E dL_law_380 rfl rfl ?_
  refine nz_Liload_n (pc := 381) (i := 3) E dL_law_381 rfl rfl ?_
  refine nz_Liconst (pc := 382) (v := 1) E dL_law_382 (by decide) ?_
  refine nz_Liadd (pc := 383) E dL_law_383 ?_
  refine nz_Lsld (pc := 384) E hi1 dL_law_384 ?_
  refine nz_Laload_n (pc := 385) (i := 0) E dL_law_385 rfl rfl ?_
  refine nz_Liload_n (pc := 386) (i := 3) E dL_law_386 rfl rfl ?_
  refine nz_Liconst (pc := 387) (v := 2) E dL_law_387 (by decide) ?_
  refine nz_Liadd (pc := 388) E dL_law_388 ?_
  refine nz_Lsld (pc := 389) E hi2 dL_law_389 ?_
  refine nz_Lcall8I (pc := 390) (As := [.int _, .int _]) E (k_X8_cut _ _ _ _ e2) nz_w911 nz_w912 nz_w913 nz_w67 nz_w914 ds_X8_cut ⟨Nat.le_of_ble_eq_true rfl, Nat.le_of_ble_eq_true rfl⟩ rfl rfl rfl rfl (Nat.le_of_ble_eq_true rfl) dL_law_390 ?_
  refine nz_LeqT (pc := 393) (tgt := 906) E dL_law_393 (by decide) ?_
  exact hK r xk1 xm1 hR1
set_option maxHeartbeats 4000000 in
set_option maxRecDepth 20000 in
theorem nz_case_split {κ : nz_LC} {L : Nat} {xs : Nat → Int32} (E : nz_LE κ L xs) {R : nz_S → nz_S → Prop} (h : ∀ (a0 : Int32) (a1 : Int32) (xk xm : nz_S), R xk xm → nz_both R (f_X7_split a0 a1 xk) (f_X8_split a0 a1 xm)) {xk xm : nz_S} (hR : R xk xm) {iv : Int32} (hi1 : vp_in (iv + 1) L) (hi2 : vp_in (iv + 2) L) (hi3 : vp_in (iv + 3) L) (hK : ∀ (_ : Int32) (xk xm : nz_S), R xk xm → nz_Ls κ 906 [(0, .ref κ.2.1.2.2.2.2), (1, .ref (κ.2.2.2.1 0)), (2, .ref (κ.2.2.2.2 0)), (3, .int iv)] [] xk xm) : nz_Ls κ 398 [(0, .ref κ.2.1.2.2.2.2), (1, .ref (κ.2.2.2.1 0)), (2, .ref (κ.2.2.2.2 0)), (3, .int iv)] [] xk xm := by
  refine nz_Laload_n (pc := 398) (i := 1) E dL_law_398 rfl rfl ?_
  refine nz_Laload_n (pc := 399) (i := 0) E dL_law_399 rfl rfl ?_
  refine nz_Liload_n (pc := 400) (i := 3) E dL_law_400 rfl rfl ?_
  refine nz_Liconst (pc := 401) (v := 1) E dL_law_401 (by decide) ?_
  refine nz_Liadd (pc := 402) E dL_law_402 ?_
  refine nz_Lsld (pc := 403) E hi1 dL_law_403 ?_
  refine nz_Laload_n (pc := 404) (i := 0) E dL_law_404 rfl rfl ?_
  refine nz_Liload_n (pc := 405) (i := 3) E dL_law_405 rfl rfl ?_
  refine nz_Liconst (pc := 406) (v := 2) E dL_law_406 (by decide) ?_
  refine nz_Liadd (pc := 407) E dL_law_407 ?_
  refine nz_Lsld (pc := 408) E hi2 dL_law_408 ?_
  obtain ⟨r, xk1, xm1, e1, e2, hR1⟩ := h _ _ xk xm hR
  refine nz_Lcall7I (pc := 409) (As := [.int _, .int _]) E (k_X7_split _ _ _ _ e1) nz_w478 nz_w479 nz_w480 nz_w58 nz_w481 ds_X7_split ⟨Nat.le_of_ble_eq_true rfl, Nat.le_of_ble_eq_true rfl⟩ rfl rfl rfl rfl (Nat.le_of_ble_eq_true rfl) dL_law_409 ?_
  refine nz_Laload_n (pc := 412) (i := 2) E dL_law_412 rfl rfl ?_
  refine nz_Laload_n (pc := 413) (i := 0) E dL_law_413 rfl rfl ?_
  refine nz_Liload_n (pc := 414) (i := 3) E dL_law_414 rfl rfl ?_
  refine nz_Liconst (pc := 415) (v := 1) E dL_law_415 (by decide) ?_
  refine nz_Liadd (pc := 416) E dL_law_416 ?_
  refine nz_Lsld (pc := 417) E hi1 dL_law_417 ?_
  refine nz_Laload_n (pc := 418) (i := 0) E dL_law_418 rfl rfl ?_
  refine nz_Liload_n (pc := 419) (i := 3) E dL_law_419 rfl rfl ?_
  refine nz_Liconst (pc := 420) (v := 2) E dL_law_420 (by decide) ?_
  refine nz_Liadd (pc := 421) E dL_law_421 ?_
  refine nz_Lsld (pc := 422) E hi2 dL_law_422 ?_
  refine nz_Lcall8I (pc := 423) (As := [.int _, .int _]) E (k_X8_split _ _ _ _ e2) nz_w918 nz_w919 nz_w920 nz_w67 nz_w921 ds_X8_split ⟨Nat.le_of_ble_eq_true rfl, Nat.le_of_ble_eq_true rfl⟩ rfl rfl rfl rfl (Nat.le_of_ble_eq_true rfl) dL_law_423 ?_
  refine nz_LeqT (pc := 426) (tgt := 906) E dL_law_426 (by decide) ?_
  exact hK r xk1 xm1 hR1
set_option maxHeartbeats 4000000 in
set_option maxRecDepth 20000 in
theorem nz_case_mend {κ : nz_LC} {L : Nat} {xs : Nat → Int32} (E : nz_LE κ L xs) {R : nz_S → nz_S → Prop} (h : ∀ (xk xm : nz_S), R xk xm → nz_both R (f_X7_mend xk) (f_X8_mend xm)) {xk xm : nz_S} (hR : R xk xm) {iv : Int32} (hi1 : vp_in (iv + 1) L) (hi2 : vp_in (iv + 2) L) (hi3 : vp_in (iv + 3) L) (hK : ∀ (_ : Int32) (xk xm : nz_S), R xk xm → nz_Ls κ 906 [(0, .ref κ.2.1.2.2.2.2), (1, .ref (κ.2.2.2.1 0)), (2, .ref (κ.2.2.2.2 0)), (3, .int iv)] [] xk xm) : nz_Ls κ 431 [(0, .ref κ.2.1.2.2.2.2), (1, .ref (κ.2.2.2.1 0)), (2, .ref (κ.2.2.2.2 0)), (3, .int iv)] [] xk xm := by
  refine nz_Laload_n (pc := 431) (i := 1) E dL_law_431 rfl rfl ?_
  obtain ⟨r, xk1, xm1, e1, e2, hR1⟩ := h  xk xm hR
  refine nz_Lcall7I (pc := 432) (As := []) E (k_X7_mend _ _ e1) nz_w495 nz_w496 nz_w497 nz_w58 nz_w498 ds_X7_mend ⟨Nat.le_of_ble_eq_true rfl, Nat.le_of_ble_eq_true rfl⟩ rfl rfl rfl rfl (Nat.le_of_ble_eq_true rfl) dL_law_432 ?_
  refine nz_Laload_n (pc := 435) (i := 2) E dL_law_435 rfl rfl ?_
  refine nz_Lcall8I (pc := 436) (As := []) E (k_X8_mend _ _ e2) nz_w925 nz_w926 nz_w927 nz_w67 nz_w928 ds_X8_mend ⟨Nat.le_of_ble_eq_true rfl, Nat.le_of_ble_eq_true rfl⟩ rfl rfl rfl rfl (Nat.le_of_ble_eq_true rfl) dL_law_436 ?_
  refine nz_LeqT (pc := 439) (tgt := 906) E dL_law_439 (by decide) ?_
  exact hK r xk1 xm1 hR1
set_option maxHeartbeats 4000000 in
set_option maxRecDepth 20000 in
theorem nz_case_undo {κ : nz_LC} {L : Nat} {xs : Nat → Int32} (E : nz_LE κ L xs) {R : nz_S → nz_S → Prop} (h : ∀ (xk xm : nz_S), R xk xm → nz_both R (f_X7_undo xk) (f_X8_undo xm)) {xk xm : nz_S} (hR : R xk xm) {iv : Int32} (hi1 : vp_in (iv + 1) L) (hi2 : vp_in (iv + 2) L) (hi3 : vp_in (iv + 3) L) (hK : ∀ (_ : Int32) (xk xm : nz_S), R xk xm → nz_Ls κ 906 [(0, .ref κ.2.1.2.2.2.2), (1, .ref (κ.2.2.2.1 0)), (2, .ref (κ.2.2.2.2 0)), (3, .int iv)] [] xk xm) : nz_Ls κ 444 [(0, .ref κ.2.1.2.2.2.2), (1, .ref (κ.2.2.2.1 0)), (2, .ref (κ.2.2.2.2 0)), (3, .int iv)] [] xk xm := by
  refine nz_Laload_n (pc := 444) (i := 1) E dL_law_444 rfl rfl ?_
  obtain ⟨r, xk1, xm1, e1, e2, hR1⟩ := h  xk xm hR
  refine nz_Lcall7I (pc := 445) (As := []) E (k_X7_undo _ _ e1) nz_w523 nz_w524 nz_w525 nz_w58 nz_w526 ds_X7_undo ⟨Nat.le_of_ble_eq_true rfl, Nat.le_of_ble_eq_true rfl⟩ rfl rfl rfl rfl (Nat.le_of_ble_eq_true rfl) dL_law_445 ?_
  refine nz_Laload_n (pc := 448) (i := 2) E dL_law_448 rfl rfl ?_
  refine nz_Lcall8I (pc := 449) (As := []) E (k_X8_undo _ _ e2) nz_w945 nz_w946 nz_w947 nz_w67 nz_w948 ds_X8_undo ⟨Nat.le_of_ble_eq_true rfl, Nat.le_of_ble_eq_true rfl⟩ rfl rfl rfl rfl (Nat.le_of_ble_eq_true rfl) dL_law_449 ?_
  refine nz_LeqT (pc := 452) (tgt := 906) E dL_law_452 (by decide) ?_
  exact hK r xk1 xm1 hR1
set_option maxHeartbeats 4000000 in
set_option maxRecDepth 20000 in
theorem nz_case_run {κ : nz_LC} {L : Nat} {xs : Nat → Int32} (E : nz_LE κ L xs) {R : nz_S → nz_S → Prop} (h : ∀ (a0 : Int32) (a1 : Int32) (a2 : Int32) (xk xm : nz_S), R xk xm → nz_both R (f_X7_run a0 a1 a2 xk) (f_X8_run a0 a1 a2 xm)) {xk xm : nz_S} (hR : R xk xm) {iv : Int32} (hi1 : vp_in (iv + 1) L) (hi2 : vp_in (iv + 2) L) (hi3 : vp_in (iv + 3) L) (hK : ∀ (_ : Int32) (xk xm : nz_S), R xk xm → nz_Ls κ 906 [(0, .ref κ.2.1.2.2.2.2), (1, .ref (κ.2.2.2.1 0)), (2, .ref (κ.2.2.2.2 0)), (3, .int iv)] [] xk xm) : nz_Ls κ 457 [(0, .ref κ.2.1.2.2.2.2), (1, .ref (κ.2.2.2.1 0)), (2, .ref (κ.2.2.2.2 0)), (3, .int iv)] [] xk xm := by
  refine nz_Laload_n (pc := 457) (i := 1) E dL_law_457 rfl rfl ?_
  refine nz_Laload_n (pc := 458) (i := 0) E dL_law_458 rfl rfl ?_
  refine nz_Liload_n (pc := 459) (i := 3) E dL_law_459 rfl rfl ?_
  refine nz_Liconst (pc := 460) (v := 1) E dL_law_460 (by decide) ?_
  refine nz_Liadd (pc := 461) E dL_law_461 ?_
  refine nz_Lsld (pc := 462) E hi1 dL_law_462 ?_
  refine nz_Laload_n (pc := 463) (i := 0) E dL_law_463 rfl rfl ?_
  refine nz_Liload_n (pc := 464) (i := 3) E dL_law_464 rfl rfl ?_
  refine nz_Liconst (pc := 465) (v := 2) E dL_law_465 (by decide) ?_
  refine nz_Liadd (pc := 466) E dL_law_466 ?_
  refine nz_Lsld (pc := 467) E hi2 dL_law_467 ?_
  refine nz_Laload_n (pc := 468) (i := 0) E dL_law_468 rfl rfl ?_
  refine nz_Liload_n (pc := 469) (i := 3) E dL_law_469 rfl rfl ?_
  refine nz_Liconst (pc := 470) (v := 3) E dL_law_470 (by decide) ?_
  refine nz_Liadd (pc := 471) E dL_law_471 ?_
  refine nz_Lsld (pc := 472) E hi3 dL_law_472 ?_
  obtain ⟨r, xk1, xm1, e1, e2, hR1⟩ := h _ _ _ xk xm hR
  refine nz_Lcall7I (pc := 473) (As := [.int _, .int _, .int _]) E (k_X7_run _ _ _ _ _ e1) nz_w535 nz_w536 nz_w537 nz_w58 nz_w538 ds_X7_run ⟨Nat.le_of_ble_eq_true rfl, Nat.le_of_ble_eq_true rfl⟩ rfl rfl rfl rfl (Nat.le_of_ble_eq_true rfl) dL_law_473 ?_
  refine nz_Laload_n (pc := 476) (i := 2) E dL_law_476 rfl rfl ?_
  refine nz_Laload_n (pc := 477) (i := 0) E dL_law_477 rfl rfl ?_
  refine nz_Liload_n (pc := 478) (i := 3) E dL_law_478 rfl rfl ?_
  refine nz_Liconst (pc := 479) (v := 1) E dL_law_479 (by decide) ?_
  refine nz_Liadd (pc := 480) E dL_law_480 ?_
  refine nz_Lsld (pc := 481) E hi1 dL_law_481 ?_
  refine nz_Laload_n (pc := 482) (i := 0) E dL_law_482 rfl rfl ?_
  refine nz_Liload_n (pc := 483) (i := 3) E dL_law_483 rfl rfl ?_
  refine nz_Liconst (pc := 484) (v := 2) E dL_law_484 (by decide) ?_
  refine nz_Liadd (pc := 485) E dL_law_485 ?_
  refine nz_Lsld (pc := 486) E hi2 dL_law_486 ?_
  refine nz_Laload_n (pc := 487) (i := 0) E dL_law_487 rfl rfl ?_
  refine nz_Liload_n (pc := 488) (i := 3) E dL_law_488 rfl rfl ?_
  refine nz_Liconst (pc := 489) (v := 3) E dL_law_489 (by decide) ?_
  refine nz_Liadd (pc := 490) E dL_law_490 ?_
  refine nz_Lsld (pc := 491) E hi3 dL_law_491 ?_
  refine nz_Lcall8I (pc := 492) (As := [.int _, .int _, .int _]) E (k_X8_run _ _ _ _ _ e2) nz_w949 nz_w950 nz_w951 nz_w67 nz_w952 ds_X8_run ⟨Nat.le_of_ble_eq_true rfl, Nat.le_of_ble_eq_true rfl⟩ rfl rfl rfl rfl (Nat.le_of_ble_eq_true rfl) dL_law_492 ?_
  refine nz_LeqT (pc := 495) (tgt := 906) E dL_law_495 (by decide) ?_
  exact hK r xk1 xm1 hR1
set_option maxHeartbeats 4000000 in
set_option maxRecDepth 20000 in
theorem nz_case_would {κ : nz_LC} {L : Nat} {xs : Nat → Int32} (E : nz_LE κ L xs) {R : nz_S → nz_S → Prop} (h : ∀ (a0 : Int32) (xk xm : nz_S), R xk xm → nz_both R (f_X7_would a0 xk) (f_X8_would a0 xm)) {xk xm : nz_S} (hR : R xk xm) {iv : Int32} (hi1 : vp_in (iv + 1) L) (hi2 : vp_in (iv + 2) L) (hi3 : vp_in (iv + 3) L) (hK : ∀ (_ : Int32) (xk xm : nz_S), R xk xm → nz_Ls κ 906 [(0, .ref κ.2.1.2.2.2.2), (1, .ref (κ.2.2.2.1 0)), (2, .ref (κ.2.2.2.2 0)), (3, .int iv)] [] xk xm) : nz_Ls κ 500 [(0, .ref κ.2.1.2.2.2.2), (1, .ref (κ.2.2.2.1 0)), (2, .ref (κ.2.2.2.2 0)), (3, .int iv)] [] xk xm := by
  refine nz_Laload_n (pc := 500) (i := 1) E dL_law_500 rfl rfl ?_
  refine nz_Laload_n (pc := 501) (i := 0) E dL_law_501 rfl rfl ?_
  refine nz_Liload_n (pc := 502) (i := 3) E dL_law_502 rfl rfl ?_
  refine nz_Liconst (pc := 503) (v := 1) E dL_law_503 (by decide) ?_
  refine nz_Liadd (pc := 504) E dL_law_504 ?_
  refine nz_Lsld (pc := 505) E hi1 dL_law_505 ?_
  obtain ⟨r, xk1, xm1, e1, e2, hR1⟩ := h _ xk xm hR
  refine nz_Lcall7I (pc := 506) (As := [.int _]) E (k_X7_would _ _ _ e1) nz_w553 nz_w554 nz_w555 nz_w58 nz_w556 ds_X7_would ⟨Nat.le_of_ble_eq_true rfl, Nat.le_of_ble_eq_true rfl⟩ rfl rfl rfl rfl (Nat.le_of_ble_eq_true rfl) dL_law_506 ?_
  refine nz_Laload_n (pc := 509) (i := 2) E dL_law_509 rfl rfl ?_
  refine nz_Laload_n (pc := 510) (i := 0) E dL_law_510 rfl rfl ?_
  refine nz_Liload_n (pc := 511) (i := 3) E dL_law_511 rfl rfl ?_
  refine nz_Liconst (pc := 512) (v := 1) E dL_law_512 (by decide) ?_
  refine nz_Liadd (pc := 513) E dL_law_513 ?_
  refine nz_Lsld (pc := 514) E hi1 dL_law_514 ?_
  refine nz_Lcall8I (pc := 515) (As := [.int _]) E (k_X8_would _ _ _ e2) nz_w967 nz_w968 nz_w969 nz_w67 nz_w970 ds_X8_would ⟨Nat.le_of_ble_eq_true rfl, Nat.le_of_ble_eq_true rfl⟩ rfl rfl rfl rfl (Nat.le_of_ble_eq_true rfl) dL_law_515 ?_
  refine nz_LeqT (pc := 518) (tgt := 906) E dL_law_518 (by decide) ?_
  exact hK r xk1 xm1 hR1
set_option maxHeartbeats 4000000 in
set_option maxRecDepth 20000 in
theorem nz_case_judge {κ : nz_LC} {L : Nat} {xs : Nat → Int32} (E : nz_LE κ L xs) {R : nz_S → nz_S → Prop} (h : ∀ (a0 : Int32) (a1 : Int64) (xk xm : nz_S), R xk xm → nz_both R (f_X7_judge a0 a1 xk) (f_X8_judge a0 a1 xm)) {xk xm : nz_S} (hR : R xk xm) {iv : Int32} (hi1 : vp_in (iv + 1) L) (hi2 : vp_in (iv + 2) L) (hi3 : vp_in (iv + 3) L) (hK : ∀ (_ : Int32) (xk xm : nz_S), R xk xm → nz_Ls κ 906 [(0, .ref κ.2.1.2.2.2.2), (1, .ref (κ.2.2.2.1 0)), (2, .ref (κ.2.2.2.2 0)), (3, .int iv)] [] xk xm) : nz_Ls κ 523 [(0, .ref κ.2.1.2.2.2.2), (1, .ref (κ.2.2.2.1 0)), (2, .ref (κ.2.2.2.2 0)), (3, .int iv)] [] xk xm := by
  refine nz_Laload_n (pc := 523) (i := 1) E dL_law_523 rfl rfl ?_
  refine nz_Laload_n (pc := 524) (i := 0) E dL_law_524 rfl rfl ?_
  refine nz_Liload_n (pc := 525) (i := 3) E dL_law_525 rfl rfl ?_
  refine nz_Liconst (pc := 526) (v := 1) E dL_law_526 (by decide) ?_
  refine nz_Liadd (pc := 527) E dL_law_527 ?_
  refine nz_Lsld (pc := 528) E hi1 dL_law_528 ?_
  refine nz_Laload_n (pc := 529) (i := 0) E dL_law_529 rfl rfl ?_
  refine nz_Liload_n (pc := 530) (i := 3) E dL_law_530 rfl rfl ?_
  refine nz_Liconst (pc := 531) (v := 2) E dL_law_531 (by decide) ?_
  refine nz_Liadd (pc := 532) E dL_law_532 ?_
  refine nz_Lsld (pc := 533) E hi2 dL_law_533 ?_
  refine nz_Li2l (pc := 534) E dL_law_534 ?_
  refine nz_Lbipush (pc := 535) (v := 32) E dL_law_535 (by decide) ?_
  refine nz_Llshl (pc := 537) E dL_law_537 ?_
  refine nz_Laload_n (pc := 538) (i := 0) E dL_law_538 rfl rfl ?_
  refine nz_Liload_n (pc := 539) (i := 3) E dL_law_539 rfl rfl ?_
  refine nz_Liconst (pc := 540) (v := 3) E dL_law_540 (by decide) ?_
  refine nz_Liadd (pc := 541) E dL_law_541 ?_
  refine nz_Lsld (pc := 542) E hi3 dL_law_542 ?_
  refine nz_Li2l (pc := 543) E dL_law_543 ?_
  refine nz_Lldc2 (pc := 544) E nz_w1068 dL_law_544 ?_
  refine nz_Lland (pc := 547) E dL_law_547 ?_
  refine nz_Llor (pc := 548) E dL_law_548 ?_
  obtain ⟨r, xk1, xm1, e1, e2, hR1⟩ := h _ _ xk xm hR
  refine nz_Lcall7I (pc := 549) (As := [.int _, .long _]) E (k_X7_judge _ _ _ _ e1) nz_w557 nz_w558 nz_w559 nz_w58 nz_w560 ds_X7_judge ⟨Nat.le_of_ble_eq_true rfl, Nat.le_of_ble_eq_true rfl⟩ rfl rfl rfl rfl (Nat.le_of_ble_eq_true rfl) dL_law_549 ?_
  refine nz_Laload_n (pc := 552) (i := 2) E dL_law_552 rfl rfl ?_
  refine nz_Laload_n (pc := 553) (i := 0) E dL_law_553 rfl rfl ?_
  refine nz_Liload_n (pc := 554) (i := 3) E dL_law_554 rfl rfl ?_
  refine nz_Liconst (pc := 555) (v := 1) E dL_law_555 (by decide) ?_
  refine nz_Liadd (pc := 556) E dL_law_556 ?_
  refine nz_Lsld (pc := 557) E hi1 dL_law_557 ?_
  refine nz_Laload_n (pc := 558) (i := 0) E dL_law_558 rfl rfl ?_
  refine nz_Liload_n (pc := 559) (i := 3) E dL_law_559 rfl rfl ?_
  refine nz_Liconst (pc := 560) (v := 2) E dL_law_560 (by decide) ?_
  refine nz_Liadd (pc := 561) E dL_law_561 ?_
  refine nz_Lsld (pc := 562) E hi2 dL_law_562 ?_
  refine nz_Li2l (pc := 563) E dL_law_563 ?_
  refine nz_Lbipush (pc := 564) (v := 32) E dL_law_564 (by decide) ?_
  refine nz_Llshl (pc := 566) E dL_law_566 ?_
  refine nz_Laload_n (pc := 567) (i := 0) E dL_law_567 rfl rfl ?_
  refine nz_Liload_n (pc := 568) (i := 3) E dL_law_568 rfl rfl ?_
  refine nz_Liconst (pc := 569) (v := 3) E dL_law_569 (by decide) ?_
  refine nz_Liadd (pc := 570) E dL_law_570 ?_
  refine nz_Lsld (pc := 571) E hi3 dL_law_571 ?_
  refine nz_Li2l (pc := 572) E dL_law_572 ?_
  refine nz_Lldc2 (pc := 573) E nz_w1068 dL_law_573 ?_
  refine nz_Lland (pc := 576) E dL_law_576 ?_
  refine nz_Llor (pc := 577) E dL_law_577 ?_
  refine nz_Lcall8I (pc := 578) (As := [.int _, .long _]) E (k_X8_judge _ _ _ _ e2) nz_w976 nz_w977 nz_w978 nz_w67 nz_w979 ds_X8_judge ⟨Nat.le_of_ble_eq_true rfl, Nat.le_of_ble_eq_true rfl⟩ rfl rfl rfl rfl (Nat.le_of_ble_eq_true rfl) dL_law_578 ?_
  refine nz_LeqT (pc := 581) (tgt := 906) E dL_law_581 (by decide) ?_
  exact hK r xk1 xm1 hR1
set_option maxHeartbeats 4000000 in
set_option maxRecDepth 20000 in
theorem nz_case_share {κ : nz_LC} {L : Nat} {xs : Nat → Int32} (E : nz_LE κ L xs) {R : nz_S → nz_S → Prop} (h : ∀ (a0 : Int32) (a1 : Int32) (a2 : Int32) (xk xm : nz_S), R xk xm → nz_both R (f_X7_share a0 a1 a2 xk) (f_X8_share a0 a1 a2 xm)) {xk xm : nz_S} (hR : R xk xm) {iv : Int32} (hi1 : vp_in (iv + 1) L) (hi2 : vp_in (iv + 2) L) (hi3 : vp_in (iv + 3) L) (hK : ∀ (_ : Int32) (xk xm : nz_S), R xk xm → nz_Ls κ 906 [(0, .ref κ.2.1.2.2.2.2), (1, .ref (κ.2.2.2.1 0)), (2, .ref (κ.2.2.2.2 0)), (3, .int iv)] [] xk xm) : nz_Ls κ 586 [(0, .ref κ.2.1.2.2.2.2), (1, .ref (κ.2.2.2.1 0)), (2, .ref (κ.2.2.2.2 0)), (3, .int iv)] [] xk xm := by
  refine nz_Laload_n (pc := 586) (i := 1) E dL_law_586 rfl rfl ?_
  refine nz_Laload_n (pc := 587) (i := 0) E dL_law_587 rfl rfl ?_
  refine nz_Liload_n (pc := 588) (i := 3) E dL_law_588 rfl rfl ?_
  refine nz_Liconst (pc := 589) (v := 1) E dL_law_589 (by decide) ?_
  refine nz_Liadd (pc := 590) E dL_law_590 ?_
  refine nz_Lsld (pc := 591) E hi1 dL_law_591 ?_
  refine nz_Laload_n (pc := 592) (i := 0) E dL_law_592 rfl rfl ?_
  refine nz_Liload_n (pc := 593) (i := 3) E dL_law_593 rfl rfl ?_
  refine nz_Liconst (pc := 594) (v := 2) E dL_law_594 (by decide) ?_
  refine nz_Liadd (pc := 595) E dL_law_595 ?_
  refine nz_Lsld (pc := 596) E hi2 dL_law_596 ?_
  refine nz_Laload_n (pc := 597) (i := 0) E dL_law_597 rfl rfl ?_
  refine nz_Liload_n (pc := 598) (i := 3) E dL_law_598 rfl rfl ?_
  refine nz_Liconst (pc := 599) (v := 3) E dL_law_599 (by decide) ?_
  refine nz_Liadd (pc := 600) E dL_law_600 ?_
  refine nz_Lsld (pc := 601) E hi3 dL_law_601 ?_
  refine nz_Lifeq (pc := 602) (tgt := 609) E dL_law_602 (by decide) (fun hz => ?_) (fun hz => ?_)
  · skip
    refine nz_Liconst (pc := 609) (v := 0) E dL_law_609 (by decide) ?_
    obtain ⟨r, xk1, xm1, e1, e2, hR1⟩ := h _ _ _ xk xm hR
    refine nz_Lcall7I (pc := 610) (As := [.int _, .int _, .int _]) E (k_X7_share _ _ _ _ _ e1) nz_w569 nz_w570 nz_w571 nz_w58 nz_w572 ds_X7_share ⟨Nat.le_of_ble_eq_true rfl, Nat.le_of_ble_eq_true rfl⟩ rfl rfl rfl rfl (Nat.le_of_ble_eq_true rfl) dL_law_610 ?_
    refine nz_Laload_n (pc := 613) (i := 2) E dL_law_613 rfl rfl ?_
    refine nz_Laload_n (pc := 614) (i := 0) E dL_law_614 rfl rfl ?_
    refine nz_Liload_n (pc := 615) (i := 3) E dL_law_615 rfl rfl ?_
    refine nz_Liconst (pc := 616) (v := 1) E dL_law_616 (by decide) ?_
    refine nz_Liadd (pc := 617) E dL_law_617 ?_
    refine nz_Lsld (pc := 618) E hi1 dL_law_618 ?_
    refine nz_Laload_n (pc := 619) (i := 0) E dL_law_619 rfl rfl ?_
    refine nz_Liload_n (pc := 620) (i := 3) E dL_law_620 rfl rfl ?_
    refine nz_Liconst (pc := 621) (v := 2) E dL_law_621 (by decide) ?_
    refine nz_Liadd (pc := 622) E dL_law_622 ?_
    refine nz_Lsld (pc := 623) E hi2 dL_law_623 ?_
    refine nz_Laload_n (pc := 624) (i := 0) E dL_law_624 rfl rfl ?_
    refine nz_Liload_n (pc := 625) (i := 3) E dL_law_625 rfl rfl ?_
    refine nz_Liconst (pc := 626) (v := 3) E dL_law_626 (by decide) ?_
    refine nz_Liadd (pc := 627) E dL_law_627 ?_
    refine nz_Lsld (pc := 628) E hi3 dL_law_628 ?_
    refine nz_Lifeq (pc := 629) (tgt := 636) E dL_law_629 (by decide) (fun hz2 => ?_) (fun hz2 => absurd hz hz2)
    refine nz_Liconst (pc := 636) (v := 0) E dL_law_636 (by decide) ?_
    refine nz_Lcall8I (pc := 637) (As := [.int _, .int _, .int _]) E (k_X8_share _ _ _ _ _ e2) nz_w1005 nz_w1006 nz_w1007 nz_w67 nz_w1008 ds_X8_share ⟨Nat.le_of_ble_eq_true rfl, Nat.le_of_ble_eq_true rfl⟩ rfl rfl rfl rfl (Nat.le_of_ble_eq_true rfl) dL_law_637 ?_
    refine nz_LeqT (pc := 640) (tgt := 906) E dL_law_640 (by decide) ?_
    exact hK r xk1 xm1 hR1
  · skip
    refine nz_Liconst (pc := 605) (v := 1) E dL_law_605 (by decide) ?_
    refine nz_Lgoto (pc := 606) (tgt := 610) E dL_law_606 (by decide) ?_
    obtain ⟨r, xk1, xm1, e1, e2, hR1⟩ := h _ _ _ xk xm hR
    refine nz_Lcall7I (pc := 610) (As := [.int _, .int _, .int _]) E (k_X7_share _ _ _ _ _ e1) nz_w569 nz_w570 nz_w571 nz_w58 nz_w572 ds_X7_share ⟨Nat.le_of_ble_eq_true rfl, Nat.le_of_ble_eq_true rfl⟩ rfl rfl rfl rfl (Nat.le_of_ble_eq_true rfl) dL_law_610 ?_
    refine nz_Laload_n (pc := 613) (i := 2) E dL_law_613 rfl rfl ?_
    refine nz_Laload_n (pc := 614) (i := 0) E dL_law_614 rfl rfl ?_
    refine nz_Liload_n (pc := 615) (i := 3) E dL_law_615 rfl rfl ?_
    refine nz_Liconst (pc := 616) (v := 1) E dL_law_616 (by decide) ?_
    refine nz_Liadd (pc := 617) E dL_law_617 ?_
    refine nz_Lsld (pc := 618) E hi1 dL_law_618 ?_
    refine nz_Laload_n (pc := 619) (i := 0) E dL_law_619 rfl rfl ?_
    refine nz_Liload_n (pc := 620) (i := 3) E dL_law_620 rfl rfl ?_
    refine nz_Liconst (pc := 621) (v := 2) E dL_law_621 (by decide) ?_
    refine nz_Liadd (pc := 622) E dL_law_622 ?_
    refine nz_Lsld (pc := 623) E hi2 dL_law_623 ?_
    refine nz_Laload_n (pc := 624) (i := 0) E dL_law_624 rfl rfl ?_
    refine nz_Liload_n (pc := 625) (i := 3) E dL_law_625 rfl rfl ?_
    refine nz_Liconst (pc := 626) (v := 3) E dL_law_626 (by decide) ?_
    refine nz_Liadd (pc := 627) E dL_law_627 ?_
    refine nz_Lsld (pc := 628) E hi3 dL_law_628 ?_
    refine nz_Lifeq (pc := 629) (tgt := 636) E dL_law_629 (by decide) (fun hz2 => absurd hz2 hz) (fun hz2 => ?_)
    refine nz_Liconst (pc := 632) (v := 1) E dL_law_632 (by decide) ?_
    refine nz_Lgoto (pc := 633) (tgt := 637) E dL_law_633 (by decide) ?_
    refine nz_Lcall8I (pc := 637) (As := [.int _, .int _, .int _]) E (k_X8_share _ _ _ _ _ e2) nz_w1005 nz_w1006 nz_w1007 nz_w67 nz_w1008 ds_X8_share ⟨Nat.le_of_ble_eq_true rfl, Nat.le_of_ble_eq_true rfl⟩ rfl rfl rfl rfl (Nat.le_of_ble_eq_true rfl) dL_law_637 ?_
    refine nz_LeqT (pc := 640) (tgt := 906) E dL_law_640 (by decide) ?_
    exact hK r xk1 xm1 hR1
set_option maxHeartbeats 4000000 in
set_option maxRecDepth 20000 in
theorem nz_case_see {κ : nz_LC} {L : Nat} {xs : Nat → Int32} (E : nz_LE κ L xs) {R : nz_S → nz_S → Prop} (h : ∀ (a0 : Int32) (a1 : Int32) (a2 : Int32) (xk xm : nz_S), R xk xm → nz_both R (f_X7_see a0 a1 a2 xk) (f_X8_see a0 a1 a2 xm)) {xk xm : nz_S} (hR : R xk xm) {iv : Int32} (hi1 : vp_in (iv + 1) L) (hi2 : vp_in (iv + 2) L) (hi3 : vp_in (iv + 3) L) (hK : ∀ (_ : Int32) (xk xm : nz_S), R xk xm → nz_Ls κ 906 [(0, .ref κ.2.1.2.2.2.2), (1, .ref (κ.2.2.2.1 0)), (2, .ref (κ.2.2.2.2 0)), (3, .int iv)] [] xk xm) : nz_Ls κ 645 [(0, .ref κ.2.1.2.2.2.2), (1, .ref (κ.2.2.2.1 0)), (2, .ref (κ.2.2.2.2 0)), (3, .int iv)] [] xk xm := by
  refine nz_Laload_n (pc := 645) (i := 1) E dL_law_645 rfl rfl ?_
  refine nz_Laload_n (pc := 646) (i := 0) E dL_law_646 rfl rfl ?_
  refine nz_Liload_n (pc := 647) (i := 3) E dL_law_647 rfl rfl ?_
  refine nz_Liconst (pc := 648) (v := 1) E dL_law_648 (by decide) ?_
  refine nz_Liadd (pc := 649) E dL_law_649 ?_
  refine nz_Lsld (pc := 650) E hi1 dL_law_650 ?_
  refine nz_Laload_n (pc := 651) (i := 0) E dL_law_651 rfl rfl ?_
  refine nz_Liload_n (pc := 652) (i := 3) E dL_law_652 rfl rfl ?_
  refine nz_Liconst (pc := 653) (v := 2) E dL_law_653 (by decide) ?_
  refine nz_Liadd (pc := 654) E dL_law_654 ?_
  refine nz_Lsld (pc := 655) E hi2 dL_law_655 ?_
  refine nz_Laload_n (pc := 656) (i := 0) E dL_law_656 rfl rfl ?_
  refine nz_Liload_n (pc := 657) (i := 3) E dL_law_657 rfl rfl ?_
  refine nz_Liconst (pc := 658) (v := 3) E dL_law_658 (by decide) ?_
  refine nz_Liadd (pc := 659) E dL_law_659 ?_
  refine nz_Lsld (pc := 660) E hi3 dL_law_660 ?_
  obtain ⟨r, xk1, xm1, e1, e2, hR1⟩ := h _ _ _ xk xm hR
  refine nz_Lcall7I (pc := 661) (As := [.int _, .int _, .int _]) E (k_X7_see _ _ _ _ _ e1) nz_w600 nz_w601 nz_w602 nz_w58 nz_w603 ds_X7_see ⟨Nat.le_of_ble_eq_true rfl, Nat.le_of_ble_eq_true rfl⟩ rfl rfl rfl rfl (Nat.le_of_ble_eq_true rfl) dL_law_661 ?_
  refine nz_Laload_n (pc := 664) (i := 2) E dL_law_664 rfl rfl ?_
  refine nz_Laload_n (pc := 665) (i := 0) E dL_law_665 rfl rfl ?_
  refine nz_Liload_n (pc := 666) (i := 3) E dL_law_666 rfl rfl ?_
  refine nz_Liconst (pc := 667) (v := 1) E dL_law_667 (by decide) ?_
  refine nz_Liadd (pc := 668) E dL_law_668 ?_
  refine nz_Lsld (pc := 669) E hi1 dL_law_669 ?_
  refine nz_Laload_n (pc := 670) (i := 0) E dL_law_670 rfl rfl ?_
  refine nz_Liload_n (pc := 671) (i := 3) E dL_law_671 rfl rfl ?_
  refine nz_Liconst (pc := 672) (v := 2) E dL_law_672 (by decide) ?_
  refine nz_Liadd (pc := 673) E dL_law_673 ?_
  refine nz_Lsld (pc := 674) E hi2 dL_law_674 ?_
  refine nz_Laload_n (pc := 675) (i := 0) E dL_law_675 rfl rfl ?_
  refine nz_Liload_n (pc := 676) (i := 3) E dL_law_676 rfl rfl ?_
  refine nz_Liconst (pc := 677) (v := 3) E dL_law_677 (by decide) ?_
  refine nz_Liadd (pc := 678) E dL_law_678 ?_
  refine nz_Lsld (pc := 679) E hi3 dL_law_679 ?_
  refine nz_Lcall8I (pc := 680) (As := [.int _, .int _, .int _]) E (k_X8_see _ _ _ _ _ e2) nz_w1025 nz_w1026 nz_w1027 nz_w67 nz_w1028 ds_X8_see ⟨Nat.le_of_ble_eq_true rfl, Nat.le_of_ble_eq_true rfl⟩ rfl rfl rfl rfl (Nat.le_of_ble_eq_true rfl) dL_law_680 ?_
  refine nz_LeqT (pc := 683) (tgt := 906) E dL_law_683 (by decide) ?_
  exact hK r xk1 xm1 hR1
set_option maxHeartbeats 4000000 in
set_option maxRecDepth 20000 in
theorem nz_case_unsee {κ : nz_LC} {L : Nat} {xs : Nat → Int32} (E : nz_LE κ L xs) {R : nz_S → nz_S → Prop} (h : ∀ (xk xm : nz_S), R xk xm → nz_both R (f_X7_unsee xk) (f_X8_unsee xm)) {xk xm : nz_S} (hR : R xk xm) {iv : Int32} (hi1 : vp_in (iv + 1) L) (hi2 : vp_in (iv + 2) L) (hi3 : vp_in (iv + 3) L) (hK : ∀ (_ : Int32) (xk xm : nz_S), R xk xm → nz_Ls κ 906 [(0, .ref κ.2.1.2.2.2.2), (1, .ref (κ.2.2.2.1 0)), (2, .ref (κ.2.2.2.2 0)), (3, .int iv)] [] xk xm) : nz_Ls κ 688 [(0, .ref κ.2.1.2.2.2.2), (1, .ref (κ.2.2.2.1 0)), (2, .ref (κ.2.2.2.2 0)), (3, .int iv)] [] xk xm := by
  refine nz_Laload_n (pc := 688) (i := 1) E dL_law_688 rfl rfl ?_
  obtain ⟨r, xk1, xm1, e1, e2, hR1⟩ := h  xk xm hR
  refine nz_Lcall7I (pc := 689) (As := []) E (k_X7_unsee _ _ e1) nz_w608 nz_w609 nz_w610 nz_w58 nz_w611 ds_X7_unsee ⟨Nat.le_of_ble_eq_true rfl, Nat.le_of_ble_eq_true rfl⟩ rfl rfl rfl rfl (Nat.le_of_ble_eq_true rfl) dL_law_689 ?_
  refine nz_Laload_n (pc := 692) (i := 2) E dL_law_692 rfl rfl ?_
  refine nz_Lcall8I (pc := 693) (As := []) E (k_X8_unsee _ _ e2) nz_w1029 nz_w1030 nz_w1031 nz_w67 nz_w1032 ds_X8_unsee ⟨Nat.le_of_ble_eq_true rfl, Nat.le_of_ble_eq_true rfl⟩ rfl rfl rfl rfl (Nat.le_of_ble_eq_true rfl) dL_law_693 ?_
  refine nz_LeqT (pc := 696) (tgt := 906) E dL_law_696 (by decide) ?_
  exact hK r xk1 xm1 hR1
set_option maxHeartbeats 4000000 in
set_option maxRecDepth 20000 in
theorem nz_case_rows {κ : nz_LC} {L : Nat} {xs : Nat → Int32} (E : nz_LE κ L xs) {R : nz_S → nz_S → Prop} (h : ∀ (a0 : Int32) (xk xm : nz_S), R xk xm → nz_both R (f_X7_rows a0 xk) (f_X8_rows a0 xm)) {xk xm : nz_S} (hR : R xk xm) {iv : Int32} (hi1 : vp_in (iv + 1) L) (hi2 : vp_in (iv + 2) L) (hi3 : vp_in (iv + 3) L) (hK : ∀ (_ : Int32) (xk xm : nz_S), R xk xm → nz_Ls κ 906 [(0, .ref κ.2.1.2.2.2.2), (1, .ref (κ.2.2.2.1 0)), (2, .ref (κ.2.2.2.2 0)), (3, .int iv)] [] xk xm) : nz_Ls κ 701 [(0, .ref κ.2.1.2.2.2.2), (1, .ref (κ.2.2.2.1 0)), (2, .ref (κ.2.2.2.2 0)), (3, .int iv)] [] xk xm := by
  refine nz_Laload_n (pc := 701) (i := 1) E dL_law_701 rfl rfl ?_
  refine nz_Laload_n (pc := 702) (i := 0) E dL_law_702 rfl rfl ?_
  refine nz_Liload_n (pc := 703) (i := 3) E dL_law_703 rfl rfl ?_
  refine nz_Liconst (pc := 704) (v := 1) E dL_law_704 (by decide) ?_
  refine nz_Liadd (pc := 705) E dL_law_705 ?_
  refine nz_Lsld (pc := 706) E hi1 dL_law_706 ?_
  obtain ⟨r, xk1, xm1, e1, e2, hR1⟩ := h _ xk xm hR
  refine nz_Lcall7I (pc := 707) (As := [.int _]) E (k_X7_rows _ _ _ e1) nz_w616 nz_w617 nz_w618 nz_w58 nz_w619 ds_X7_rows ⟨Nat.le_of_ble_eq_true rfl, Nat.le_of_ble_eq_true rfl⟩ rfl rfl rfl rfl (Nat.le_of_ble_eq_true rfl) dL_law_707 ?_
  refine nz_Laload_n (pc := 710) (i := 2) E dL_law_710 rfl rfl ?_
  refine nz_Laload_n (pc := 711) (i := 0) E dL_law_711 rfl rfl ?_
  refine nz_Liload_n (pc := 712) (i := 3) E dL_law_712 rfl rfl ?_
  refine nz_Liconst (pc := 713) (v := 1) E dL_law_713 (by decide) ?_
  refine nz_Liadd (pc := 714) E dL_law_714 ?_
  refine nz_Lsld (pc := 715) E hi1 dL_law_715 ?_
  refine nz_Lcall8I (pc := 716) (As := [.int _]) E (k_X8_rows _ _ _ e2) nz_w1033 nz_w1034 nz_w1035 nz_w67 nz_w1036 ds_X8_rows ⟨Nat.le_of_ble_eq_true rfl, Nat.le_of_ble_eq_true rfl⟩ rfl rfl rfl rfl (Nat.le_of_ble_eq_true rfl) dL_law_716 ?_
  refine nz_LeqT (pc := 719) (tgt := 906) E dL_law_719 (by decide) ?_
  exact hK r xk1 xm1 hR1
set_option maxHeartbeats 4000000 in
set_option maxRecDepth 20000 in
theorem nz_case_torn {κ : nz_LC} {L : Nat} {xs : Nat → Int32} (E : nz_LE κ L xs) {R : nz_S → nz_S → Prop} (h : ∀ (a0 : Int32) (a1 : Int32) (a2 : Int32) (xk xm : nz_S), R xk xm → nz_both R (f_X7_torn a0 a1 a2 xk) (f_X8_torn a0 a1 a2 xm)) {xk xm : nz_S} (hR : R xk xm) {iv : Int32} (hi1 : vp_in (iv + 1) L) (hi2 : vp_in (iv + 2) L) (hi3 : vp_in (iv + 3) L) (hK : ∀ (_ : Int32) (xk xm : nz_S), R xk xm → nz_Ls κ 906 [(0, .ref κ.2.1.2.2.2.2), (1, .ref (κ.2.2.2.1 0)), (2, .ref (κ.2.2.2.2 0)), (3, .int iv)] [] xk xm) : nz_Ls κ 724 [(0, .ref κ.2.1.2.2.2.2), (1, .ref (κ.2.2.2.1 0)), (2, .ref (κ.2.2.2.2 0)), (3, .int iv)] [] xk xm := by
  refine nz_Laload_n (pc := 724) (i := 1) E dL_law_724 rfl rfl ?_
  refine nz_Laload_n (pc := 725) (i := 0) E dL_law_725 rfl rfl ?_
  refine nz_Liload_n (pc := 726) (i := 3) E dL_law_726 rfl rfl ?_
  refine nz_Liconst (pc := 727) (v := 1) E dL_law_727 (by decide) ?_
  refine nz_Liadd (pc := 728) E dL_law_728 ?_
  refine nz_Lsld (pc := 729) E hi1 dL_law_729 ?_
  refine nz_Laload_n (pc := 730) (i := 0) E dL_law_730 rfl rfl ?_
  refine nz_Liload_n (pc := 731) (i := 3) E dL_law_731 rfl rfl ?_
  refine nz_Liconst (pc := 732) (v := 2) E dL_law_732 (by decide) ?_
  refine nz_Liadd (pc := 733) E dL_law_733 ?_
  refine nz_Lsld (pc := 734) E hi2 dL_law_734 ?_
  refine nz_Laload_n (pc := 735) (i := 0) E dL_law_735 rfl rfl ?_
  refine nz_Liload_n (pc := 736) (i := 3) E dL_law_736 rfl rfl ?_
  refine nz_Liconst (pc := 737) (v := 3) E dL_law_737 (by decide) ?_
  refine nz_Liadd (pc := 738) E dL_law_738 ?_
  refine nz_Lsld (pc := 739) E hi3 dL_law_739 ?_
  refine nz_Lifeq (pc := 740) (tgt := 747) E dL_law_740 (by decide) (fun hz => ?_) (fun hz => ?_)
  · skip
    refine nz_Liconst (pc := 747) (v := 0) E dL_law_747 (by decide) ?_
    obtain ⟨r, xk1, xm1, e1, e2, hR1⟩ := h _ _ _ xk xm hR
    refine nz_Lcall7I (pc := 748) (As := [.int _, .int _, .int _]) E (k_X7_torn _ _ _ _ _ e1) nz_w631 nz_w632 nz_w633 nz_w58 nz_w634 ds_X7_torn ⟨Nat.le_of_ble_eq_true rfl, Nat.le_of_ble_eq_true rfl⟩ rfl rfl rfl rfl (Nat.le_of_ble_eq_true rfl) dL_law_748 ?_
    refine nz_Laload_n (pc := 751) (i := 2) E dL_law_751 rfl rfl ?_
    refine nz_Laload_n (pc := 752) (i := 0) E dL_law_752 rfl rfl ?_
    refine nz_Liload_n (pc := 753) (i := 3) E dL_law_753 rfl rfl ?_
    refine nz_Liconst (pc := 754) (v := 1) E dL_law_754 (by decide) ?_
    refine nz_Liadd (pc := 755) E dL_law_755 ?_
    refine nz_Lsld (pc := 756) E hi1 dL_law_756 ?_
    refine nz_Laload_n (pc := 757) (i := 0) E dL_law_757 rfl rfl ?_
    refine nz_Liload_n (pc := 758) (i := 3) E dL_law_758 rfl rfl ?_
    refine nz_Liconst (pc := 759) (v := 2) E dL_law_759 (by decide) ?_
    refine nz_Liadd (pc := 760) E dL_law_760 ?_
    refine nz_Lsld (pc := 761) E hi2 dL_law_761 ?_
    refine nz_Laload_n (pc := 762) (i := 0) E dL_law_762 rfl rfl ?_
    refine nz_Liload_n (pc := 763) (i := 3) E dL_law_763 rfl rfl ?_
    refine nz_Liconst (pc := 764) (v := 3) E dL_law_764 (by decide) ?_
    refine nz_Liadd (pc := 765) E dL_law_765 ?_
    refine nz_Lsld (pc := 766) E hi3 dL_law_766 ?_
    refine nz_Lifeq (pc := 767) (tgt := 774) E dL_law_767 (by decide) (fun hz2 => ?_) (fun hz2 => absurd hz hz2)
    refine nz_Liconst (pc := 774) (v := 0) E dL_law_774 (by decide) ?_
    refine nz_Lcall8I (pc := 775) (As := [.int _, .int _, .int _]) E (k_X8_torn _ _ _ _ _ e2) nz_w1044 nz_w1045 nz_w1046 nz_w67 nz_w1047 ds_X8_torn ⟨Nat.le_of_ble_eq_true rfl, Nat.le_of_ble_eq_true rfl⟩ rfl rfl rfl rfl (Nat.le_of_ble_eq_true rfl) dL_law_775 ?_
    refine nz_LeqT (pc := 778) (tgt := 906) E dL_law_778 (by decide) ?_
    exact hK r xk1 xm1 hR1
  · skip
    refine nz_Liconst (pc := 743) (v := 1) E dL_law_743 (by decide) ?_
    refine nz_Lgoto (pc := 744) (tgt := 748) E dL_law_744 (by decide) ?_
    obtain ⟨r, xk1, xm1, e1, e2, hR1⟩ := h _ _ _ xk xm hR
    refine nz_Lcall7I (pc := 748) (As := [.int _, .int _, .int _]) E (k_X7_torn _ _ _ _ _ e1) nz_w631 nz_w632 nz_w633 nz_w58 nz_w634 ds_X7_torn ⟨Nat.le_of_ble_eq_true rfl, Nat.le_of_ble_eq_true rfl⟩ rfl rfl rfl rfl (Nat.le_of_ble_eq_true rfl) dL_law_748 ?_
    refine nz_Laload_n (pc := 751) (i := 2) E dL_law_751 rfl rfl ?_
    refine nz_Laload_n (pc := 752) (i := 0) E dL_law_752 rfl rfl ?_
    refine nz_Liload_n (pc := 753) (i := 3) E dL_law_753 rfl rfl ?_
    refine nz_Liconst (pc := 754) (v := 1) E dL_law_754 (by decide) ?_
    refine nz_Liadd (pc := 755) E dL_law_755 ?_
    refine nz_Lsld (pc := 756) E hi1 dL_law_756 ?_
    refine nz_Laload_n (pc := 757) (i := 0) E dL_law_757 rfl rfl ?_
    refine nz_Liload_n (pc := 758) (i := 3) E dL_law_758 rfl rfl ?_
    refine nz_Liconst (pc := 759) (v := 2) E dL_law_759 (by decide) ?_
    refine nz_Liadd (pc := 760) E dL_law_760 ?_
    refine nz_Lsld (pc := 761) E hi2 dL_law_761 ?_
    refine nz_Laload_n (pc := 762) (i := 0) E dL_law_762 rfl rfl ?_
    refine nz_Liload_n (pc := 763) (i := 3) E dL_law_763 rfl rfl ?_
    refine nz_Liconst (pc := 764) (v := 3) E dL_law_764 (by decide) ?_
    refine nz_Liadd (pc := 765) E dL_law_765 ?_
    refine nz_Lsld (pc := 766) E hi3 dL_law_766 ?_
    refine nz_Lifeq (pc := 767) (tgt := 774) E dL_law_767 (by decide) (fun hz2 => absurd hz2 hz) (fun hz2 => ?_)
    refine nz_Liconst (pc := 770) (v := 1) E dL_law_770 (by decide) ?_
    refine nz_Lgoto (pc := 771) (tgt := 775) E dL_law_771 (by decide) ?_
    refine nz_Lcall8I (pc := 775) (As := [.int _, .int _, .int _]) E (k_X8_torn _ _ _ _ _ e2) nz_w1044 nz_w1045 nz_w1046 nz_w67 nz_w1047 ds_X8_torn ⟨Nat.le_of_ble_eq_true rfl, Nat.le_of_ble_eq_true rfl⟩ rfl rfl rfl rfl (Nat.le_of_ble_eq_true rfl) dL_law_775 ?_
    refine nz_LeqT (pc := 778) (tgt := 906) E dL_law_778 (by decide) ?_
    exact hK r xk1 xm1 hR1
set_option maxHeartbeats 4000000 in
set_option maxRecDepth 20000 in
theorem nz_case_seed {κ : nz_LC} {L : Nat} {xs : Nat → Int32} (E : nz_LE κ L xs) {R : nz_S → nz_S → Prop} (h : ∀ (a0 : Int64) (xk xm : nz_S), R xk xm → nz_both R (f_X7_seed a0 xk) (f_X8_seed a0 xm)) {xk xm : nz_S} (hR : R xk xm) {iv : Int32} (hi1 : vp_in (iv + 1) L) (hi2 : vp_in (iv + 2) L) (hi3 : vp_in (iv + 3) L) (hK : ∀ (_ : Int64) (xk xm : nz_S), R xk xm → nz_Ls κ 906 [(0, .ref κ.2.1.2.2.2.2), (1, .ref (κ.2.2.2.1 0)), (2, .ref (κ.2.2.2.2 0)), (3, .int iv)] [] xk xm) : nz_Ls κ 783 [(0, .ref κ.2.1.2.2.2.2), (1, .ref (κ.2.2.2.1 0)), (2, .ref (κ.2.2.2.2 0)), (3, .int iv)] [] xk xm := by
  refine nz_Laload_n (pc := 783) (i := 1) E dL_law_783 rfl rfl ?_
  refine nz_Laload_n (pc := 784) (i := 0) E dL_law_784 rfl rfl ?_
  refine nz_Liload_n (pc := 785) (i := 3) E dL_law_785 rfl rfl ?_
  refine nz_Liconst (pc := 786) (v := 1) E dL_law_786 (by decide) ?_
  refine nz_Liadd (pc := 787) E dL_law_787 ?_
  refine nz_Lsld (pc := 788) E hi1 dL_law_788 ?_
  refine nz_Li2l (pc := 789) E dL_law_789 ?_
  refine nz_Lbipush (pc := 790) (v := 32) E dL_law_790 (by decide) ?_
  refine nz_Llshl (pc := 792) E dL_law_792 ?_
  refine nz_Laload_n (pc := 793) (i := 0) E dL_law_793 rfl rfl ?_
  refine nz_Liload_n (pc := 794) (i := 3) E dL_law_794 rfl rfl ?_
  refine nz_Liconst (pc := 795) (v := 2) E dL_law_795 (by decide) ?_
  refine nz_Liadd (pc := 796) E dL_law_796 ?_
  refine nz_Lsld (pc := 797) E hi2 dL_law_797 ?_
  refine nz_Li2l (pc := 798) E dL_law_798 ?_
  refine nz_Lldc2 (pc := 799) E nz_w1068 dL_law_799 ?_
  refine nz_Lland (pc := 802) E dL_law_802 ?_
  refine nz_Llor (pc := 803) E dL_law_803 ?_
  obtain ⟨r, xk1, xm1, e1, e2, hR1⟩ := h _ xk xm hR
  refine nz_Lcall7L (pc := 804) (As := [.long _]) E (k_X7_seed _ _ _ e1) nz_w638 nz_w639 nz_w640 nz_w58 nz_w641 ds_X7_seed ⟨Nat.le_of_ble_eq_true rfl, Nat.le_of_ble_eq_true rfl⟩ rfl rfl rfl rfl (Nat.le_of_ble_eq_true rfl) dL_law_804 ?_
  refine nz_Laload_n (pc := 807) (i := 2) E dL_law_807 rfl rfl ?_
  refine nz_Laload_n (pc := 808) (i := 0) E dL_law_808 rfl rfl ?_
  refine nz_Liload_n (pc := 809) (i := 3) E dL_law_809 rfl rfl ?_
  refine nz_Liconst (pc := 810) (v := 1) E dL_law_810 (by decide) ?_
  refine nz_Liadd (pc := 811) E dL_law_811 ?_
  refine nz_Lsld (pc := 812) E hi1 dL_law_812 ?_
  refine nz_Li2l (pc := 813) E dL_law_813 ?_
  refine nz_Lbipush (pc := 814) (v := 32) E dL_law_814 (by decide) ?_
  refine nz_Llshl (pc := 816) E dL_law_816 ?_
  refine nz_Laload_n (pc := 817) (i := 0) E dL_law_817 rfl rfl ?_
  refine nz_Liload_n (pc := 818) (i := 3) E dL_law_818 rfl rfl ?_
  refine nz_Liconst (pc := 819) (v := 2) E dL_law_819 (by decide) ?_
  refine nz_Liadd (pc := 820) E dL_law_820 ?_
  refine nz_Lsld (pc := 821) E hi2 dL_law_821 ?_
  refine nz_Li2l (pc := 822) E dL_law_822 ?_
  refine nz_Lldc2 (pc := 823) E nz_w1068 dL_law_823 ?_
  refine nz_Lland (pc := 826) E dL_law_826 ?_
  refine nz_Llor (pc := 827) E dL_law_827 ?_
  refine nz_Lcall8L (pc := 828) (As := [.long _]) E (k_X8_seed _ _ _ e2) nz_w1049 nz_w1050 nz_w1051 nz_w67 nz_w1052 ds_X8_seed ⟨Nat.le_of_ble_eq_true rfl, Nat.le_of_ble_eq_true rfl⟩ rfl rfl rfl rfl (Nat.le_of_ble_eq_true rfl) dL_law_828 ?_
  refine nz_LlcT (pc := 831) E dL_law_831 ?_
  refine nz_Lif0T (pc := 832) (tgt := 906) E dL_law_832 (by decide) ?_
  exact hK r xk1 xm1 hR1
set_option maxHeartbeats 4000000 in
set_option maxRecDepth 20000 in
theorem nz_case_drawn {κ : nz_LC} {L : Nat} {xs : Nat → Int32} (E : nz_LE κ L xs) {R : nz_S → nz_S → Prop} (h : ∀ (a0 : Int32) (xk xm : nz_S), R xk xm → nz_both R (f_X7_drawn a0 xk) (f_X8_drawn a0 xm)) {xk xm : nz_S} (hR : R xk xm) {iv : Int32} (hi1 : vp_in (iv + 1) L) (hi2 : vp_in (iv + 2) L) (hi3 : vp_in (iv + 3) L) (hK : ∀ (_ : Int32) (xk xm : nz_S), R xk xm → nz_Ls κ 906 [(0, .ref κ.2.1.2.2.2.2), (1, .ref (κ.2.2.2.1 0)), (2, .ref (κ.2.2.2.2 0)), (3, .int iv)] [] xk xm) : nz_Ls κ 837 [(0, .ref κ.2.1.2.2.2.2), (1, .ref (κ.2.2.2.1 0)), (2, .ref (κ.2.2.2.2 0)), (3, .int iv)] [] xk xm := by
  refine nz_Laload_n (pc := 837) (i := 1) E dL_law_837 rfl rfl ?_
  refine nz_Laload_n (pc := 838) (i := 0) E dL_law_838 rfl rfl ?_
  refine nz_Liload_n (pc := 839) (i := 3) E dL_law_839 rfl rfl ?_
  refine nz_Liconst (pc := 840) (v := 1) E dL_law_840 (by decide) ?_
  refine nz_Liadd (pc := 841) E dL_law_841 ?_
  refine nz_Lsld (pc := 842) E hi1 dL_law_842 ?_
  obtain ⟨r, xk1, xm1, e1, e2, hR1⟩ := h _ xk xm hR
  refine nz_Lcall7I (pc := 843) (As := [.int _]) E (k_X7_drawn _ _ _ e1) nz_w642 nz_w643 nz_w644 nz_w58 nz_w645 ds_X7_drawn ⟨Nat.le_of_ble_eq_true rfl, Nat.le_of_ble_eq_true rfl⟩ rfl rfl rfl rfl (Nat.le_of_ble_eq_true rfl) dL_law_843 ?_
  refine nz_Laload_n (pc := 846) (i := 2) E dL_law_846 rfl rfl ?_
  refine nz_Laload_n (pc := 847) (i := 0) E dL_law_847 rfl rfl ?_
  refine nz_Liload_n (pc := 848) (i := 3) E dL_law_848 rfl rfl ?_
  refine nz_Liconst (pc := 849) (v := 1) E dL_law_849 (by decide) ?_
  refine nz_Liadd (pc := 850) E dL_law_850 ?_
  refine nz_Lsld (pc := 851) E hi1 dL_law_851 ?_
  refine nz_Lcall8I (pc := 852) (As := [.int _]) E (k_X8_drawn _ _ _ e2) nz_w1053 nz_w1054 nz_w1055 nz_w67 nz_w1056 ds_X8_drawn ⟨Nat.le_of_ble_eq_true rfl, Nat.le_of_ble_eq_true rfl⟩ rfl rfl rfl rfl (Nat.le_of_ble_eq_true rfl) dL_law_852 ?_
  refine nz_LeqT (pc := 855) (tgt := 906) E dL_law_855 (by decide) ?_
  exact hK r xk1 xm1 hR1
set_option maxHeartbeats 4000000 in
set_option maxRecDepth 20000 in
theorem nz_case_keep {κ : nz_LC} {L : Nat} {xs : Nat → Int32} (E : nz_LE κ L xs) {R : nz_S → nz_S → Prop} (h : ∀ (a0 : Int32) (xk xm : nz_S), R xk xm → nz_both R (f_X7_keep a0 xk) (f_X8_keep a0 xm)) {xk xm : nz_S} (hR : R xk xm) {iv : Int32} (hi1 : vp_in (iv + 1) L) (hi2 : vp_in (iv + 2) L) (hi3 : vp_in (iv + 3) L) (hK : ∀ (_ : Int32) (xk xm : nz_S), R xk xm → nz_Ls κ 906 [(0, .ref κ.2.1.2.2.2.2), (1, .ref (κ.2.2.2.1 0)), (2, .ref (κ.2.2.2.2 0)), (3, .int iv)] [] xk xm) : nz_Ls κ 860 [(0, .ref κ.2.1.2.2.2.2), (1, .ref (κ.2.2.2.1 0)), (2, .ref (κ.2.2.2.2 0)), (3, .int iv)] [] xk xm := by
  refine nz_Laload_n (pc := 860) (i := 1) E dL_law_860 rfl rfl ?_
  refine nz_Laload_n (pc := 861) (i := 0) E dL_law_861 rfl rfl ?_
  refine nz_Liload_n (pc := 862) (i := 3) E dL_law_862 rfl rfl ?_
  refine nz_Liconst (pc := 863) (v := 1) E dL_law_863 (by decide) ?_
  refine nz_Liadd (pc := 864) E dL_law_864 ?_
  refine nz_Lsld (pc := 865) E hi1 dL_law_865 ?_
  obtain ⟨r, xk1, xm1, e1, e2, hR1⟩ := h _ xk xm hR
  refine nz_Lcall7I (pc := 866) (As := [.int _]) E (k_X7_keep _ _ _ e1) nz_w652 nz_w653 nz_w654 nz_w58 nz_w655 ds_X7_keep ⟨Nat.le_of_ble_eq_true rfl, Nat.le_of_ble_eq_true rfl⟩ rfl rfl rfl rfl (Nat.le_of_ble_eq_true rfl) dL_law_866 ?_
  refine nz_Laload_n (pc := 869) (i := 2) E dL_law_869 rfl rfl ?_
  refine nz_Laload_n (pc := 870) (i := 0) E dL_law_870 rfl rfl ?_
  refine nz_Liload_n (pc := 871) (i := 3) E dL_law_871 rfl rfl ?_
  refine nz_Liconst (pc := 872) (v := 1) E dL_law_872 (by decide) ?_
  refine nz_Liadd (pc := 873) E dL_law_873 ?_
  refine nz_Lsld (pc := 874) E hi1 dL_law_874 ?_
  refine nz_Lcall8I (pc := 875) (As := [.int _]) E (k_X8_keep _ _ _ e2) nz_w1060 nz_w1061 nz_w1062 nz_w67 nz_w1063 ds_X8_keep ⟨Nat.le_of_ble_eq_true rfl, Nat.le_of_ble_eq_true rfl⟩ rfl rfl rfl rfl (Nat.le_of_ble_eq_true rfl) dL_law_875 ?_
  refine nz_LeqT (pc := 878) (tgt := 906) E dL_law_878 (by decide) ?_
  exact hK r xk1 xm1 hR1
set_option maxHeartbeats 4000000 in
set_option maxRecDepth 20000 in
theorem nz_case_again {κ : nz_LC} {L : Nat} {xs : Nat → Int32} (E : nz_LE κ L xs) {R : nz_S → nz_S → Prop} (h : ∀ (a0 : Int32) (xk xm : nz_S), R xk xm → nz_both R (f_X7_again a0 xk) (f_X8_again a0 xm)) {xk xm : nz_S} (hR : R xk xm) {iv : Int32} (hi1 : vp_in (iv + 1) L) (hi2 : vp_in (iv + 2) L) (hi3 : vp_in (iv + 3) L) (hK : ∀ (_ : Int32) (xk xm : nz_S), R xk xm → nz_Ls κ 906 [(0, .ref κ.2.1.2.2.2.2), (1, .ref (κ.2.2.2.1 0)), (2, .ref (κ.2.2.2.2 0)), (3, .int iv)] [] xk xm) : nz_Ls κ 883 [(0, .ref κ.2.1.2.2.2.2), (1, .ref (κ.2.2.2.1 0)), (2, .ref (κ.2.2.2.2 0)), (3, .int iv)] [] xk xm := by
  refine nz_Laload_n (pc := 883) (i := 1) E dL_law_883 rfl rfl ?_
  refine nz_Laload_n (pc := 884) (i := 0) E dL_law_884 rfl rfl ?_
  refine nz_Liload_n (pc := 885) (i := 3) E dL_law_885 rfl rfl ?_
  refine nz_Liconst (pc := 886) (v := 1) E dL_law_886 (by decide) ?_
  refine nz_Liadd (pc := 887) E dL_law_887 ?_
  refine nz_Lsld (pc := 888) E hi1 dL_law_888 ?_
  obtain ⟨r, xk1, xm1, e1, e2, hR1⟩ := h _ xk xm hR
  refine nz_Lcall7I (pc := 889) (As := [.int _]) E (k_X7_again _ _ _ e1) nz_w661 nz_w662 nz_w663 nz_w58 nz_w664 ds_X7_again ⟨Nat.le_of_ble_eq_true rfl, Nat.le_of_ble_eq_true rfl⟩ rfl rfl rfl rfl (Nat.le_of_ble_eq_true rfl) dL_law_889 ?_
  refine nz_Laload_n (pc := 892) (i := 2) E dL_law_892 rfl rfl ?_
  refine nz_Laload_n (pc := 893) (i := 0) E dL_law_893 rfl rfl ?_
  refine nz_Liload_n (pc := 894) (i := 3) E dL_law_894 rfl rfl ?_
  refine nz_Liconst (pc := 895) (v := 1) E dL_law_895 (by decide) ?_
  refine nz_Liadd (pc := 896) E dL_law_896 ?_
  refine nz_Lsld (pc := 897) E hi1 dL_law_897 ?_
  refine nz_Lcall8I (pc := 898) (As := [.int _]) E (k_X8_again _ _ _ e2) nz_w1064 nz_w1065 nz_w1066 nz_w67 nz_w1067 ds_X8_again ⟨Nat.le_of_ble_eq_true rfl, Nat.le_of_ble_eq_true rfl⟩ rfl rfl rfl rfl (Nat.le_of_ble_eq_true rfl) dL_law_898 ?_
  refine nz_LeqT (pc := 901) (tgt := 906) E dL_law_901 (by decide) ?_
  exact hK r xk1 xm1 hR1
set_option maxHeartbeats 4000000 in
set_option maxRecDepth 20000 in
theorem nz_loop {κ : nz_LC} {L : Nat} {xs : Nat → Int32} (E : nz_LE κ L xs) {R : nz_S → nz_S → Prop} (hs : nz_Sim R) : ∀ (n k : Nat) (xk xm : nz_S), R xk xm → L + 4 < 4 * k + 4 * n → 4 * k < L + 4 → nz_Ls κ 18 [(0, .ref κ.2.1.2.2.2.2), (1, .ref (κ.2.2.2.1 0)), (2, .ref (κ.2.2.2.2 0)), (3, .int (nI (4 * k)))] [] xk xm := by
  intro n
  induction n with
  | zero => intro k xk xm _ h1 h2; omega
  | succ n ih =>
    intro k xk xm hR hk1 hk2
    have hL := E.hL
    refine nz_Liload_n (pc := 18) (i := 3) E dL_law_18 rfl rfl ?_
    refine nz_Laload_n (pc := 19) (i := 0) E dL_law_19 rfl rfl ?_
    refine nz_Lslen (pc := 20) E dL_law_20 ?_
    refine nz_Liconst (pc := 21) (v := 4) E dL_law_21 (by decide) ?_
    refine nz_Lisub (pc := 22) E dL_law_22 ?_
    have h4 : (nI L - 4 : Int32).toInt = (L : Int) - 4 := pk_sub_toInt (b := 4) (by omega) (by omega)
    have h5 : (nI (4 * k)).toInt = ((4 * k : Nat) : Int) := nI_toInt (by omega)
    refine nz_Lgt (pc := 23) (tgt := 912) E dL_law_23 (by decide) (fun hc => ?_) (fun hc => ?_)
    · refine nz_Liconst (pc := 912) (v := 1) E dL_law_912 (by decide) ?_
      exact nz_Lend (pc := 913) E dL_law_913
    · have hle : 4 * k + 4 ≤ L := by
        rw [Int32.lt_iff_toInt_lt, h4, h5] at hc
        omega
      have hi0 : vp_in (nI (4 * k)) L := vp_in_nI (by omega) (by omega)
      have hi1 : vp_in (nI (4 * k) + 1) L := by rw [nI_1]; exact vp_in_nI (by omega) (by omega)
      have hi2 : vp_in (nI (4 * k) + 2) L := by
        rw [show (2 : Int32) = nI 2 from rfl, nI_add]; exact vp_in_nI (by omega) (by omega)
      have hi3 : vp_in (nI (4 * k) + 3) L := by
        rw [show (3 : Int32) = nI 3 from rfl, nI_add]; exact vp_in_nI (by omega) (by omega)
      have hK : ∀ (xk xm : nz_S), R xk xm → nz_Ls κ 906 [(0, .ref κ.2.1.2.2.2.2), (1, .ref (κ.2.2.2.1 0)), (2, .ref (κ.2.2.2.2 0)), (3, .int (nI (4 * k)))] [] xk xm := by
        intro xk xm hR
        refine nz_Liinc (pc := 906) (i := 3) (w := 4) E dL_law_906 rfl (by decide) (by decide) rfl ?_
        refine nz_Lgoto (pc := 909) (tgt := 18) E dL_law_909 (by decide) ?_
        refine nz_Lweak (lv' := [(0, .ref κ.2.1.2.2.2.2), (1, .ref (κ.2.2.2.1 0)), (2, .ref (κ.2.2.2.2 0)), (3, .int (nI (4 * (k + 1))))]) ⟨rfl, rfl, rfl, by rw [show nI (4 * (k + 1)) = nI (4 * k) + 4 by rw [show (4 : Int32) = nI 4 from rfl, nI_add]; rfl]; rfl, trivial⟩ ?_
        exact ih (k + 1) xk xm hR (by omega) (by omega)
      refine nz_Laload_n (pc := 26) (i := 0) E dL_law_26 rfl rfl ?_
      refine nz_Liload_n (pc := 27) (i := 3) E dL_law_27 rfl rfl ?_
      refine nz_Lsld (pc := 28) E hi0 dL_law_28 ?_
      refine nz_Lbipush (pc := 29) (v := 31) E dL_law_29 (by decide) ?_
      refine nz_Liand (pc := 31) E dL_law_31 ?_
      generalize (xs (nI (4 * k)).toNatClampNeg &&& 31) = sv
      by_cases hc0 : sv = 0
      · refine nz_LtabIn (pc := 32) (off := 116) (tgt := 148) E dL_law_32 (by rw [hc0]; decide) (by rw [hc0]; decide) (by rw [hc0]; rfl) (by decide) ?_
        exact nz_case_write E hs.2.1 hR hi1 hi2 hi3 (fun _ => hK)
      by_cases hc1 : sv = 1
      · refine nz_LtabIn (pc := 32) (off := 139) (tgt := 171) E dL_law_32 (by rw [hc1]; decide) (by rw [hc1]; decide) (by rw [hc1]; rfl) (by decide) ?_
        exact nz_case_wipe E hs.2.2.1 hR hi1 hi2 hi3 (fun _ => hK)
      by_cases hc2 : sv = 2
      · refine nz_LtabIn (pc := 32) (off := 152) (tgt := 184) E dL_law_32 (by rw [hc2]; decide) (by rw [hc2]; decide) (by rw [hc2]; rfl) (by decide) ?_
        exact nz_case_fault E hs.2.2.2.1 hR hi1 hi2 hi3 (fun _ => hK)
      by_cases hc3 : sv = 3
      · refine nz_LtabIn (pc := 32) (off := 165) (tgt := 197) E dL_law_32 (by rw [hc3]; decide) (by rw [hc3]; decide) (by rw [hc3]; rfl) (by decide) ?_
        exact nz_case_graph E hs.2.2.2.2.1 hR hi1 hi2 hi3 (fun _ => hK)
      by_cases hc4 : sv = 4
      · refine nz_LtabIn (pc := 32) (off := 178) (tgt := 210) E dL_law_32 (by rw [hc4]; decide) (by rw [hc4]; decide) (by rw [hc4]; rfl) (by decide) ?_
        exact nz_case_about E hs.2.2.2.2.2.1 hR hi1 hi2 hi3 (fun _ => hK)
      by_cases hc5 : sv = 5
      · refine nz_LtabIn (pc := 32) (off := 201) (tgt := 233) E dL_law_32 (by rw [hc5]; decide) (by rw [hc5]; decide) (by rw [hc5]; rfl) (by decide) ?_
        exact nz_case_block E hs.2.2.2.2.2.2.1 hR hi1 hi2 hi3 (fun _ => hK)
      by_cases hc6 : sv = 6
      · refine nz_LtabIn (pc := 32) (off := 234) (tgt := 266) E dL_law_32 (by rw [hc6]; decide) (by rw [hc6]; decide) (by rw [hc6]; rfl) (by decide) ?_
        exact nz_case_arc E hs.2.2.2.2.2.2.2.1 hR hi1 hi2 hi3 (fun _ => hK)
      by_cases hc7 : sv = 7
      · refine nz_LtabIn (pc := 32) (off := 267) (tgt := 299) E dL_law_32 (by rw [hc7]; decide) (by rw [hc7]; decide) (by rw [hc7]; rfl) (by decide) ?_
        exact nz_case_sets E hs.2.2.2.2.2.2.2.2.1 hR hi1 hi2 hi3 (fun _ => hK)
      by_cases hc8 : sv = 8
      · refine nz_LtabIn (pc := 32) (off := 300) (tgt := 332) E dL_law_32 (by rw [hc8]; decide) (by rw [hc8]; decide) (by rw [hc8]; rfl) (by decide) ?_
        exact nz_case_add E hs.2.2.2.2.2.2.2.2.2.1 hR hi1 hi2 hi3 (fun _ => hK)
      by_cases hc9 : sv = 9
      · refine nz_LtabIn (pc := 32) (off := 333) (tgt := 365) E dL_law_32 (by rw [hc9]; decide) (by rw [hc9]; decide) (by rw [hc9]; rfl) (by decide) ?_
        exact nz_case_cut E hs.2.2.2.2.2.2.2.2.2.2.1 hR hi1 hi2 hi3 (fun _ => hK)
      by_cases hc10 : sv = 10
      · refine nz_LtabIn (pc := 32) (off := 366) (tgt := 398) E dL_law_32 (by rw [hc10]; decide) (by rw [hc10]; decide) (by rw [hc10]; rfl) (by decide) ?_
        exact nz_case_split E hs.2.2.2.2.2.2.2.2.2.2.2.1 hR hi1 hi2 hi3 (fun _ => hK)
      by_cases hc11 : sv = 11
      · refine nz_LtabIn (pc := 32) (off := 399) (tgt := 431) E dL_law_32 (by rw [hc11]; decide) (by rw [hc11]; decide) (by rw [hc11]; rfl) (by decide) ?_
        exact nz_case_mend E hs.2.2.2.2.2.2.2.2.2.2.2.2.1 hR hi1 hi2 hi3 (fun _ => hK)
      by_cases hc12 : sv = 12
      · refine nz_LtabIn (pc := 32) (off := 412) (tgt := 444) E dL_law_32 (by rw [hc12]; decide) (by rw [hc12]; decide) (by rw [hc12]; rfl) (by decide) ?_
        exact nz_case_undo E hs.2.2.2.2.2.2.2.2.2.2.2.2.2.1 hR hi1 hi2 hi3 (fun _ => hK)
      by_cases hc13 : sv = 13
      · refine nz_LtabIn (pc := 32) (off := 425) (tgt := 457) E dL_law_32 (by rw [hc13]; decide) (by rw [hc13]; decide) (by rw [hc13]; rfl) (by decide) ?_
        exact nz_case_run E hs.2.2.2.2.2.2.2.2.2.2.2.2.2.2.1 hR hi1 hi2 hi3 (fun _ => hK)
      by_cases hc14 : sv = 14
      · refine nz_LtabIn (pc := 32) (off := 468) (tgt := 500) E dL_law_32 (by rw [hc14]; decide) (by rw [hc14]; decide) (by rw [hc14]; rfl) (by decide) ?_
        exact nz_case_would E hs.2.2.2.2.2.2.2.2.2.2.2.2.2.2.2.1 hR hi1 hi2 hi3 (fun _ => hK)
      by_cases hc15 : sv = 15
      · refine nz_LtabIn (pc := 32) (off := 491) (tgt := 523) E dL_law_32 (by rw [hc15]; decide) (by rw [hc15]; decide) (by rw [hc15]; rfl) (by decide) ?_
        exact nz_case_judge E hs.2.2.2.2.2.2.2.2.2.2.2.2.2.2.2.2.1 hR hi1 hi2 hi3 (fun _ => hK)
      by_cases hc16 : sv = 16
      · refine nz_LtabIn (pc := 32) (off := 554) (tgt := 586) E dL_law_32 (by rw [hc16]; decide) (by rw [hc16]; decide) (by rw [hc16]; rfl) (by decide) ?_
        exact nz_case_share E hs.2.2.2.2.2.2.2.2.2.2.2.2.2.2.2.2.2.1 hR hi1 hi2 hi3 (fun _ => hK)
      by_cases hc17 : sv = 17
      · refine nz_LtabIn (pc := 32) (off := 613) (tgt := 645) E dL_law_32 (by rw [hc17]; decide) (by rw [hc17]; decide) (by rw [hc17]; rfl) (by decide) ?_
        exact nz_case_see E hs.2.2.2.2.2.2.2.2.2.2.2.2.2.2.2.2.2.2.1 hR hi1 hi2 hi3 (fun _ => hK)
      by_cases hc18 : sv = 18
      · refine nz_LtabIn (pc := 32) (off := 656) (tgt := 688) E dL_law_32 (by rw [hc18]; decide) (by rw [hc18]; decide) (by rw [hc18]; rfl) (by decide) ?_
        exact nz_case_unsee E hs.2.2.2.2.2.2.2.2.2.2.2.2.2.2.2.2.2.2.2.1 hR hi1 hi2 hi3 (fun _ => hK)
      by_cases hc19 : sv = 19
      · refine nz_LtabIn (pc := 32) (off := 669) (tgt := 701) E dL_law_32 (by rw [hc19]; decide) (by rw [hc19]; decide) (by rw [hc19]; rfl) (by decide) ?_
        exact nz_case_rows E hs.2.2.2.2.2.2.2.2.2.2.2.2.2.2.2.2.2.2.2.2.1 hR hi1 hi2 hi3 (fun _ => hK)
      by_cases hc20 : sv = 20
      · refine nz_LtabIn (pc := 32) (off := 692) (tgt := 724) E dL_law_32 (by rw [hc20]; decide) (by rw [hc20]; decide) (by rw [hc20]; rfl) (by decide) ?_
        exact nz_case_torn E hs.2.2.2.2.2.2.2.2.2.2.2.2.2.2.2.2.2.2.2.2.2.1 hR hi1 hi2 hi3 (fun _ => hK)
      by_cases hc21 : sv = 21
      · refine nz_LtabIn (pc := 32) (off := 751) (tgt := 783) E dL_law_32 (by rw [hc21]; decide) (by rw [hc21]; decide) (by rw [hc21]; rfl) (by decide) ?_
        exact nz_case_seed E hs.2.2.2.2.2.2.2.2.2.2.2.2.2.2.2.2.2.2.2.2.2.2.1 hR hi1 hi2 hi3 (fun _ => hK)
      by_cases hc22 : sv = 22
      · refine nz_LtabIn (pc := 32) (off := 805) (tgt := 837) E dL_law_32 (by rw [hc22]; decide) (by rw [hc22]; decide) (by rw [hc22]; rfl) (by decide) ?_
        exact nz_case_drawn E hs.2.2.2.2.2.2.2.2.2.2.2.2.2.2.2.2.2.2.2.2.2.2.2.1 hR hi1 hi2 hi3 (fun _ => hK)
      by_cases hc23 : sv = 23
      · refine nz_LtabIn (pc := 32) (off := 828) (tgt := 860) E dL_law_32 (by rw [hc23]; decide) (by rw [hc23]; decide) (by rw [hc23]; rfl) (by decide) ?_
        exact nz_case_keep E hs.2.2.2.2.2.2.2.2.2.2.2.2.2.2.2.2.2.2.2.2.2.2.2.2.1 hR hi1 hi2 hi3 (fun _ => hK)
      by_cases hc24 : sv = 24
      · refine nz_LtabIn (pc := 32) (off := 851) (tgt := 883) E dL_law_32 (by rw [hc24]; decide) (by rw [hc24]; decide) (by rw [hc24]; rfl) (by decide) ?_
        exact nz_case_again E hs.2.2.2.2.2.2.2.2.2.2.2.2.2.2.2.2.2.2.2.2.2.2.2.2.2 hR hi1 hi2 hi3 (fun _ => hK)
      have t0 : sv.toInt ≠ 0 := fun e => hc0 (nz_i32 (by rw [e]; decide))
      have t1 : sv.toInt ≠ 1 := fun e => hc1 (nz_i32 (by rw [e]; decide))
      have t2 : sv.toInt ≠ 2 := fun e => hc2 (nz_i32 (by rw [e]; decide))
      have t3 : sv.toInt ≠ 3 := fun e => hc3 (nz_i32 (by rw [e]; decide))
      have t4 : sv.toInt ≠ 4 := fun e => hc4 (nz_i32 (by rw [e]; decide))
      have t5 : sv.toInt ≠ 5 := fun e => hc5 (nz_i32 (by rw [e]; decide))
      have t6 : sv.toInt ≠ 6 := fun e => hc6 (nz_i32 (by rw [e]; decide))
      have t7 : sv.toInt ≠ 7 := fun e => hc7 (nz_i32 (by rw [e]; decide))
      have t8 : sv.toInt ≠ 8 := fun e => hc8 (nz_i32 (by rw [e]; decide))
      have t9 : sv.toInt ≠ 9 := fun e => hc9 (nz_i32 (by rw [e]; decide))
      have t10 : sv.toInt ≠ 10 := fun e => hc10 (nz_i32 (by rw [e]; decide))
      have t11 : sv.toInt ≠ 11 := fun e => hc11 (nz_i32 (by rw [e]; decide))
      have t12 : sv.toInt ≠ 12 := fun e => hc12 (nz_i32 (by rw [e]; decide))
      have t13 : sv.toInt ≠ 13 := fun e => hc13 (nz_i32 (by rw [e]; decide))
      have t14 : sv.toInt ≠ 14 := fun e => hc14 (nz_i32 (by rw [e]; decide))
      have t15 : sv.toInt ≠ 15 := fun e => hc15 (nz_i32 (by rw [e]; decide))
      have t16 : sv.toInt ≠ 16 := fun e => hc16 (nz_i32 (by rw [e]; decide))
      have t17 : sv.toInt ≠ 17 := fun e => hc17 (nz_i32 (by rw [e]; decide))
      have t18 : sv.toInt ≠ 18 := fun e => hc18 (nz_i32 (by rw [e]; decide))
      have t19 : sv.toInt ≠ 19 := fun e => hc19 (nz_i32 (by rw [e]; decide))
      have t20 : sv.toInt ≠ 20 := fun e => hc20 (nz_i32 (by rw [e]; decide))
      have t21 : sv.toInt ≠ 21 := fun e => hc21 (nz_i32 (by rw [e]; decide))
      have t22 : sv.toInt ≠ 22 := fun e => hc22 (nz_i32 (by rw [e]; decide))
      have t23 : sv.toInt ≠ 23 := fun e => hc23 (nz_i32 (by rw [e]; decide))
      have t24 : sv.toInt ≠ 24 := fun e => hc24 (nz_i32 (by rw [e]; decide))
      refine nz_LtabOut (pc := 32) (tgt := 906) E dL_law_32 (by omega) (by decide) ?_
      exact hK xk xm hR
theorem nz_disj {A : Nat → Prop} {w : nz_O} {q1 q2 : Nat → Nat} {x1 x2 : nz_S} {t1 t2 : List nz_K} (h : va_D A (nz_W w q1 x1 t1 ++ nz_W w q2 x2 t2)) : ∀ i j, i < t1.length → j < t2.length → q1 i ≠ q2 j := by
  intro i j hi hj e
  have h1 := nz_at (w := w) (q := q1) (x := x1) (List.getElem?_eq_getElem hi)
  have h2 := nz_at (w := w) (q := q2) (x := x2) (List.getElem?_eq_getElem hj)
  have l1 : (nz_W w q1 x1 t1).length = t1.length := nz_Wl_len w q1 x1 t1 0
  have e1 : (nz_W w q1 x1 t1 ++ nz_W w q2 x2 t2)[i]? = some (q1 i, nz_E w q1 x1 i t1[i]) := by rw [List.getElem?_append_left (by rw [l1]; exact hi)]; exact h1
  have e2 : (nz_W w q1 x1 t1 ++ nz_W w q2 x2 t2)[t1.length + j]? = some (q2 j, nz_E w q2 x2 j t2[j]) := by rw [List.getElem?_append_right (by rw [l1]; omega), l1, Nat.add_sub_cancel_left]; exact h2
  have := h.1 i (t1.length + j) _ _ e1 e2 e
  omega
theorem nz_appP {w : nz_O} {w1 w2 : va_W} {H : Heap} (h : va_P w.1 nz_cl (w1 ++ w2) H) : va_P w.1 nz_cl w1 H ∧ va_P w.1 nz_cl w2 H := by
  refine ⟨fun k q hk => h k q ?_, fun k q hk => h (w1.length + k) q ?_⟩
  · rw [List.getElem?_append_left (List.getElem?_eq_some_iff.mp hk).1]; exact hk
  · rw [List.getElem?_append_right (by omega), Nat.add_sub_cancel_left]; exact hk
theorem nz_appD {A : Nat → Prop} {w1 w2 : va_W} (h : va_D A (w1 ++ w2)) : va_D A w1 ∧ va_D A w2 := by
  have e1 : ∀ (k : Nat) (q : Nat × va_E), w1[k]? = some q → (w1 ++ w2)[k]? = some q := fun k q hk => by rw [List.getElem?_append_left (List.getElem?_eq_some_iff.mp hk).1]; exact hk
  have e2 : ∀ (k : Nat) (q : Nat × va_E), w2[k]? = some q → (w1 ++ w2)[w1.length + k]? = some q := fun k q hk => by rw [List.getElem?_append_right (by omega), Nat.add_sub_cancel_left]; exact hk
  refine ⟨⟨fun i j p q hi hj e => h.1 i j p q (e1 i p hi) (e1 j q hj) e, fun k q hk => h.2 k q (e1 k q hk)⟩, ⟨fun i j p q hi hj e => ?_, fun k q hk => h.2 _ q (e2 k q hk)⟩⟩
  have := h.1 _ _ p q (e2 i p hi) (e2 j q hj) e
  omega
set_option maxHeartbeats 4000000 in
set_option maxRecDepth 20000 in
theorem nz_whole {p : Program} {e : Env} {s : State} {m : MethodId} {below : List Frame} {meth : Method} {c : Code} (l : Launch) {b L : Nat} {xs : Nat → Int32} (hL : L ≤ 2048) (C0 : lw_At p s m meth c b L xs) {R : nz_S → nz_S → Prop} (hs : nz_Sim R) : W p l e room_1 s m #[Value.ref b] below meth c s.heap [] 0 0 (lw_Z below #[Value.ref b] s) (entryFrame m ([Value.ref b] : List Value).toArray 4) := by
  obtain ⟨hx, hb, hr, hml, hown, hts, hX, hbl, hlocks, hgv⟩ := id C0
  have hA : ∀ q : Nat, s.heap.size ≤ q → nz_A0 s q := fun _ h => h
  have hN : nz_Nst s := fun w hw => va_Nw.of (nz_isN_tab (List.all_eq_true.mp nz_nest_all w hw)) (hts w (nz_nest_in w hw))
  obtain ⟨c0, iS0, hKn0⟩ := u_known (C := RX0) (T := TX0) (N := 4) (n := 4) hts (fun w h => nz_G_tbl (nz_uX0 w h)) (hts _ (nz_G_tbl nz_w95))
  obtain ⟨c1, iS1, hKn1⟩ := u_known (C := RX1) (T := TX1) (N := 3) (n := 3) hts (fun w h => nz_G_tbl (nz_uX1 w h)) (hts _ (nz_G_tbl nz_w173))
  obtain ⟨c2, iS2, hKn2⟩ := u_known (C := RX2) (T := TX2) (N := 4) (n := 4) hts (fun w h => nz_G_tbl (nz_uX2 w h)) (hts _ (nz_G_tbl nz_w179))
  obtain ⟨c3, iS3, hKn3⟩ := u_known (C := RX3) (T := TX3) (N := 4) (n := 4) hts (fun w h => nz_G_tbl (nz_uX3 w h)) (hts _ (nz_G_tbl nz_w229))
  obtain ⟨c4, iS4, hKn4⟩ := u_known (C := RX4) (T := TX4) (N := 2) (n := 2) hts (fun w h => nz_G_tbl (nz_uX4 w h)) (hts _ (nz_G_tbl nz_w212))
  obtain ⟨c5, iS5, hKn5⟩ := u_known (C := RX5) (T := TX5) (N := 11) (n := 11) hts (fun w h => nz_G_tbl (nz_uX5 w h)) (hts _ (nz_G_tbl nz_w124))
  obtain ⟨c6, iS6, hKn6⟩ := u_known (C := RX6) (T := TX6) (N := 2) (n := 2) hts (fun w h => nz_G_tbl (nz_uX6 w h)) (hts _ (nz_G_tbl nz_w80))
  obtain ⟨c7, iS7, hKn7⟩ := u_known (C := RX7) (T := TX7) (N := 8) (n := 8) hts (fun w h => nz_G_tbl (nz_uX7 w h)) (hts _ (nz_G_tbl nz_w72))
  obtain ⟨c8, iS8, hKn8⟩ := u_known (C := RX8) (T := TX8) (N := 28) (n := 28) hts (fun w h => nz_G_tbl (nz_uX8 w h)) (hts _ (nz_G_tbl nz_w671))
  obtain ⟨dC, dI, hKc⟩ : ∃ (dC : Nat → ClassId) (dI : Nat → Nat → Nat), ∀ (k : Nat) (q : vw_C), nz_cl[k]? = some q → u_Kn s q.1 q.2.1 q.2.2 (dC k) (dI k) := by
    refine ⟨fun k => ([c0, c1, c2, c3, c4, c5, c6, c7, c8] : List ClassId).getD k c0, fun k => ([iS0, iS1, iS2, iS3, iS4, iS5, iS6, iS7, iS8] : List (Nat → Nat)).getD k iS0, ?_⟩
    intro k q hq
    match k, hq with
    | 0, hq => cases hq; exact hKn0
    | 1, hq => cases hq; exact hKn1
    | 2, hq => cases hq; exact hKn2
    | 3, hq => cases hq; exact hKn3
    | 4, hq => cases hq; exact hKn4
    | 5, hq => cases hq; exact hKn5
    | 6, hq => cases hq; exact hKn6
    | 7, hq => cases hq; exact hKn7
    | 8, hq => cases hq; exact hKn8
    | k + 9, hq => simp [nz_cl] at hq
  obtain ⟨cI, kI, compI, hI1, hI2, hI3⟩ := Cond.arrayClass_spec (hts (.arrayClass .int) (nz_G_tbl nz_w93))
  obtain ⟨cZ, kZ, compZ, hZ1, hZ2, hZ3⟩ := Cond.arrayClass_spec (hts (.arrayClass .boolean) (nz_G_tbl nz_w227))
  obtain ⟨w, hw⟩ : ∃ w : nz_O, w = ((dC, dI), cI, cZ) := ⟨_, rfl⟩
  have hK : va_K w.1 nz_cl (nz_ty w) s := by
    subst hw
    refine ⟨hKc, fun k q hq => ?_⟩
    match k, hq with
    | 0, hq => cases hq; exact ⟨fun n z => ⟨fun k h => (by cases h), kI, hI2, compI, hI3⟩, hI1⟩
    | 1, hq => cases hq; exact ⟨fun n z => ⟨fun k h => (by cases h), kZ, hZ2, compZ, hZ3⟩, hZ1⟩
    | k + 2, hq => simp at hq
  have hS : va_S (nz_A0 s) s.heap s.heap [] := va_S.rf
  have hP : va_P w.1 nz_cl [] s.heap := fun k q h => by simp at h
  have hD : va_D (nz_A0 s) [] := ⟨fun i j p q h => by simp at h, fun k q h => by simp at h⟩
  have hl := lv_entry ([.ref b]) (n := 4) (Nat.le_of_ble_eq_true rfl)
  rw [lg_entry_eq]
  generalize (lg_sl ([.ref b]) ++ List.replicate (4 - (lg_sl ([.ref b])).length) Slot.unset).toArray = ls at hl ⊢
  have hl : lv_has ls 4 [(0, .ref b)] := hl
  refine va_new (ci := 7) (fs := [.null, .null, .null, .null, .null, .null, .null, .long 0]) (C := RX7) (T := TX7) (N := 8) hx hb hts (fun w h => nz_G_tbl (nz_uX7 w h)) tyX7 tyX7_ok hown (hts _ (nz_G_tbl nz_w71)) (hts _ (nz_G_tbl nz_w72)) (hts _ (nz_G_tbl nz_w58)) hK hP hD hS hA rfl (fun j hj => by rcases (show j = 0 ∨ j = 1 ∨ j = 2 ∨ j = 3 ∨ j = 4 ∨ j = 5 ∨ j = 6 ∨ j = 7 by omega) with rfl | rfl | rfl | rfl | rfl | rfl | rfl | rfl <;> rfl) (Nat.le_of_ble_eq_true rfl) (Nat.le_of_ble_eq_true rfl) dL_law_0 (fun qX7 H hP hD hS => ?_)
  refine lv_dup hx hb dL_law_3 rfl ?_
  have hPc := hP.sub (ws' := [(qX7, .inr (7, [.null, .null, .null, .null, .null, .null, .null, .long 0]))]) [0] rfl
  have hDc := hD.sub (ws' := [(qX7, .inr (7, [.null, .null, .null, .null, .null, .null, .null, .long 0]))]) [0] (by decide) rfl
  have hFc := va_free (wc := [(qX7, .inr (7, [.null, .null, .null, .null, .null, .null, .null, .long 0]))]) hD hS hA [0] rfl
  refine va_callv (va_runI (As := []) (rest := [.ref qX7]) ⟨hx, hb, hml, hown, hts⟩ (kc_X7 l w qX7 _) (cwI 0 hts (nz_goodL nz_w75) rfl rfl rfl (hts _ (nz_G_tbl nz_w58)) (hts _ (nz_G_tbl nz_w73)) (hts _ (nz_G_tbl nz_w74)) rfl ds_X7_init ⟨Nat.le_of_ble_eq_true rfl, Nat.le_of_ble_eq_true rfl⟩) ⟨nz_blindC, fun U hU hW => ⟨rfl, by rw [hU], by rw [hU]; exact hPc, va_K.moved hW.alike hK, hDc.weaken (fun _ _ _ _ => trivial), hN.warm hW⟩⟩ rfl rfl hl.1 rfl (lv_room (Nat.le_of_ble_eq_true rfl)) dL_law_4 ⟨Nat.le_of_ble_eq_true rfl, Nat.le_of_ble_eq_true rfl⟩) hS (fun q _ h => hFc q h) hFc (fun u7 t H locs ht hvm hwX7 hB hz1 hk1 hS => ?_)
  subst hwX7
  obtain ⟨hP1, hK1, hD1⟩ := hB
  rw [ht] at hP1
  obtain ⟨hP, hD⟩ := va_join (wr := []) (w1 := nz_W w u7 nz_x0 nz_tK) hP hD [0] [] rfl rfl (by decide) (by decide) hk1 hFc hP1 hD1
  have hP : va_P w.1 nz_cl (nz_W w u7 nz_x0 nz_tK) H := hP
  have hD : va_D (nz_A0 s) (nz_W w u7 nz_x0 nz_tK) := hD
  refine lv_astore_n (lv' := [(1, .ref (u7 0)), (0, .ref b)]) hx hb dL_law_7 rfl hl (by decide) rfl (fun ls hl => ?_)
  refine va_new (ci := 8) (fs := [.int 0, .null, .int 0, .int 0, .null, .null, .null, .null, .int 0, .null, .null, .int 0, .null, .null, .null, .long 0, .int 0, .null, .null, .null, .null, .null, .null, .null, .null, .int 0, .int 0, .null]) (C := RX8) (T := TX8) (N := 28) hx hb hts (fun w h => nz_G_tbl (nz_uX8 w h)) tyX8 tyX8_ok hown (hts _ (nz_G_tbl nz_w670)) (hts _ (nz_G_tbl nz_w671)) (hts _ (nz_G_tbl nz_w67)) hK hP hD hS hA rfl (fun j hj => by rcases (show j = 0 ∨ j = 1 ∨ j = 2 ∨ j = 3 ∨ j = 4 ∨ j = 5 ∨ j = 6 ∨ j = 7 ∨ j = 8 ∨ j = 9 ∨ j = 10 ∨ j = 11 ∨ j = 12 ∨ j = 13 ∨ j = 14 ∨ j = 15 ∨ j = 16 ∨ j = 17 ∨ j = 18 ∨ j = 19 ∨ j = 20 ∨ j = 21 ∨ j = 22 ∨ j = 23 ∨ j = 24 ∨ j = 25 ∨ j = 26 ∨ j = 27 by omega) with rfl | rfl | rfl | rfl | rfl | rfl | rfl | rfl | rfl | rfl | rfl | rfl | rfl | rfl | rfl | rfl | rfl | rfl | rfl | rfl | rfl | rfl | rfl | rfl | rfl | rfl | rfl | rfl <;> rfl) (Nat.le_of_ble_eq_true rfl) (Nat.le_of_ble_eq_true rfl) dL_law_8 (fun qX8 H hP hD hS => ?_)
  refine lv_dup hx hb dL_law_11 rfl ?_
  have hPc := hP.sub (ws' := [(qX8, .inr (8, [.int 0, .null, .int 0, .int 0, .null, .null, .null, .null, .int 0, .null, .null, .int 0, .null, .null, .null, .long 0, .int 0, .null, .null, .null, .null, .null, .null, .null, .null, .int 0, .int 0, .null]))]) [37] rfl
  have hDc := hD.sub (ws' := [(qX8, .inr (8, [.int 0, .null, .int 0, .int 0, .null, .null, .null, .null, .int 0, .null, .null, .int 0, .null, .null, .null, .long 0, .int 0, .null, .null, .null, .null, .null, .null, .null, .null, .int 0, .int 0, .null]))]) [37] (by decide) rfl
  have hFc := va_free (wc := [(qX8, .inr (8, [.int 0, .null, .int 0, .int 0, .null, .null, .null, .null, .int 0, .null, .null, .int 0, .null, .null, .null, .long 0, .int 0, .null, .null, .null, .null, .null, .null, .null, .null, .int 0, .int 0, .null]))]) hD hS hA [37] rfl
  refine va_callv (va_runI (As := []) (rest := [.ref qX8]) ⟨hx, hb, hml, hown, hts⟩ (kc_X8 l w qX8 _) (cwI 0 hts (nz_goodL nz_w674) rfl rfl rfl (hts _ (nz_G_tbl nz_w67)) (hts _ (nz_G_tbl nz_w672)) (hts _ (nz_G_tbl nz_w673)) rfl ds_X8_init ⟨Nat.le_of_ble_eq_true rfl, Nat.le_of_ble_eq_true rfl⟩) ⟨nz_blindC, fun U hU hW => ⟨rfl, by rw [hU], by rw [hU]; exact hPc, va_K.moved hW.alike hK, hDc.weaken (fun _ _ _ _ => trivial), hN.warm hW⟩⟩ rfl rfl hl.1 rfl (lv_room (Nat.le_of_ble_eq_true rfl)) dL_law_12 ⟨Nat.le_of_ble_eq_true rfl, Nat.le_of_ble_eq_true rfl⟩) hS (fun q _ h => hFc q h) hFc (fun u8 t H locs ht hvm hwX8 hB hz1 hk1 hS => ?_)
  subst hwX8
  obtain ⟨hP1, hK1, hD1⟩ := hB
  rw [ht] at hP1
  obtain ⟨hP, hD⟩ := va_join (wr := nz_W w u7 nz_x0 nz_tK) (w1 := nz_W w u8 nz_x0 nz_tM) hP hD [37] [0, 1, 2, 3, 4, 5, 6, 7, 8, 9, 10, 11, 12, 13, 14, 15, 16, 17, 18, 19, 20, 21, 22, 23, 24, 25, 26, 27, 28, 29, 30, 31, 32, 33, 34, 35, 36] rfl rfl (by decide) (by decide) hk1 hFc hP1 hD1
  refine lv_astore_n (lv' := [(2, .ref (u8 0)), (1, .ref (u7 0)), (0, .ref b)]) hx hb dL_law_15 rfl hl (by decide) rfl (fun ls hl => ?_)
  refine lv_iconst (v := 0) hx hb dL_law_16 (by decide) ?_
  refine lv_istore_n (lv' := [(3, .int 0), (2, .ref (u8 0)), (1, .ref (u7 0)), (0, .ref b)]) hx hb dL_law_17 rfl hl (by decide) rfl (fun ls hl => ?_)
  have hl2 : nz_has ls 4 [(0, .ref b), (1, .ref (u7 0)), (2, .ref (u8 0)), (3, .int (nI (4 * 0)))] := nz_has_of (lv_sub hl [3, 2, 1, 0] rfl)
  exact nz_loop (κ := ((p, l, e, s), (m, below, meth, c, b), (w, u7, u8))) ⟨C0, hK, hN, hL⟩ hs (L + 2) 0 nz_x0 nz_x0 hs.1 (by omega) (by omega) H locs ls ⟨(nz_appP hP).1, (nz_appP hP).2, (nz_appD hD).1, (nz_appD hD).2, nz_disj hD, hS⟩ hl2
