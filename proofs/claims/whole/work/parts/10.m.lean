def f_X6_append (a0 : Int32) (x : nz_S) : Option (Int32 × nz_S) :=
  if (x.1 1 1) < (64 : Int32) then
    let v2 : Int32 := (x.1 1 1)
    nz_chk (nz_in v2 64) <|
    let x4 : nz_S := nz_put x 2 (v2).toNatClampNeg a0
    let x5 : nz_S := nz_put x4 1 1 ((x4.1 1 1) + (1 : Int32))
    some ((x5.1 1 1), x5)
  else
    some ((-4 : Int32), x)
theorem ds_X6_append : nz_dsc yX6_append 1 := by unfold nz_dsc; decide +kernel
set_option maxHeartbeats 4000000 in
set_option maxRecDepth 20000 in
theorem k_X6_append {l : Launch} {w : nz_O} {q : Nat → Nat} (a0 : Int32) (x : nz_S) (o : Int32 × nz_S) (hf : f_X6_append a0 x = some o) : nz_MI l yX6_append (nz_T yX6_append cX6_append 2 (some .int)) (nz_R 0 0) w q nz_tK [.ref (q 1), .int a0] x o := by
  refine nz_enterI (by decide) rfl (Nat.le_of_ble_eq_true rfl) rfl rfl ?_
  intro κ E hw hlq hR
  subst hw; subst hlq
  unfold f_X6_append at hf
  refine nz_weak (lv' := [(0, .ref (q 1)), (1, .int a0)]) ⟨rfl, rfl, trivial⟩ ?_
  refine nz_aload_n (pc := 0) (i := 0) E dX6_append_0 rfl rfl ?_
  refine nz_getI (pc := 1) (c := 1) (kf := 1) E rfl rfl (nz_upT nz_uX6) (by decide) (List.mem_cons_of_mem _ nz_w86) rfl rfl dX6_append_1 ?_
  refine nz_bipush (pc := 4) (v := 64) E dX6_append_4 (by decide) ?_
  refine nz_icmp_lt (pc := 6) (tgt := 12) E dX6_append_6 (by decide) (fun h1 => ?_) (fun h1 => ?_)
  · have hf := nz_ite_t hf h1
    refine nz_aload_n (pc := 12) (i := 0) E dX6_append_12 rfl rfl ?_
    refine nz_getR (pc := 13) (c := 1) (kf := 0) E rfl rfl (nz_upT nz_uX6) (by decide) (List.mem_cons_of_mem _ nz_w85) rfl rfl dX6_append_13 ?_
    refine nz_aload_n (pc := 16) (i := 0) E dX6_append_16 rfl rfl ?_
    refine nz_getI (pc := 17) (c := 1) (kf := 1) E rfl rfl (nz_upT nz_uX6) (by decide) (List.mem_cons_of_mem _ nz_w86) rfl rfl dX6_append_17 ?_
    refine nz_iload_n (pc := 20) (i := 1) E dX6_append_20 rfl rfl ?_
    obtain ⟨h3, hf⟩ := nz_chk_t hf
    refine nz_iast (pc := 21) (c := 2) E rfl h3 dX6_append_21 ?_
    refine nz_aload_n (pc := 22) (i := 0) E dX6_append_22 rfl rfl ?_
    refine nz_dup (pc := 23) E dX6_append_23 rfl ?_
    refine nz_getI (pc := 24) (c := 1) (kf := 1) E rfl rfl (nz_upT nz_uX6) (by decide) (List.mem_cons_of_mem _ nz_w86) rfl rfl dX6_append_24 ?_
    refine nz_iconst (pc := 27) (v := 1) E dX6_append_27 (by decide) ?_
    refine nz_iadd (pc := 28) E dX6_append_28 ?_
    refine nz_putI (pc := 29) (c := 1) (kf := 1) E rfl rfl (nz_upT nz_uX6) (by decide) (List.mem_cons_of_mem _ nz_w86) rfl tyX6 tyX6_ok nmX6 rfl (tyX6_ok 1 (by decide)) rfl dX6_append_29 ?_
    refine nz_aload_n (pc := 32) (i := 0) E dX6_append_32 rfl rfl ?_
    refine nz_getI (pc := 33) (c := 1) (kf := 1) E rfl rfl (nz_upT nz_uX6) (by decide) (List.mem_cons_of_mem _ nz_w86) rfl rfl dX6_append_33 ?_
    exact nz_iret (pc := 36) E hR rfl hf dX6_append_36
  · have hf := nz_ite_f hf h1
    refine nz_bipush (pc := 9) (v := -4) E dX6_append_9 (by decide) ?_
    exact nz_iret (pc := 11) E hR rfl hf dX6_append_11
def f_X7_write (a0 : Int32) (x : nz_S) : Option (Int32 × nz_S) :=
  if a0 < (0 : Int32) then
    some ((-2 : Int32), x)
  else
    if a0 ≤ (255 : Int32) then
      nz_bnd (f_X6_append  a0 x) fun r3 x4 =>
      some (r3, x4)
    else
      some ((-2 : Int32), x)
theorem ds_X7_write : nz_dsc yX7_write 1 := by unfold nz_dsc; decide +kernel
set_option maxHeartbeats 4000000 in
set_option maxRecDepth 20000 in
theorem k_X7_write {l : Launch} {w : nz_O} {q : Nat → Nat} (a0 : Int32) (x : nz_S) (o : Int32 × nz_S) (hf : f_X7_write a0 x = some o) : nz_MI l yX7_write (nz_T yX7_write cX7_write 2 (some .int)) (nz_R 1 21) w q nz_tK [.ref (q 0), .int a0] x o := by
  refine nz_enterI (by decide) rfl (Nat.le_of_ble_eq_true rfl) rfl rfl ?_
  intro κ E hw hlq hR
  subst hw; subst hlq
  unfold f_X7_write at hf
  refine nz_weak (lv' := [(0, .ref (q 0)), (1, .int a0)]) ⟨rfl, rfl, trivial⟩ ?_
  refine nz_iload_n (pc := 0) (i := 1) E dX7_write_0 rfl rfl ?_
  refine nz_if_lt (pc := 1) (tgt := 11) E dX7_write_1 (by decide) (fun h1 => ?_) (fun h1 => ?_)
  · have hf := nz_ite_t hf h1
    refine nz_bipush (pc := 11) (v := -2) E dX7_write_11 (by decide) ?_
    exact nz_iret (pc := 13) E hR rfl hf dX7_write_13
  · have hf := nz_ite_f hf h1
    refine nz_iload_n (pc := 4) (i := 1) E dX7_write_4 rfl rfl ?_
    refine nz_sipush (pc := 5) (v := 255) E dX7_write_5 (by decide) ?_
    refine nz_icmp_le (pc := 8) (tgt := 14) E dX7_write_8 (by decide) (fun h2 => ?_) (fun h2 => ?_)
    · have hf := nz_ite_t hf h2
      refine nz_aload_n (pc := 14) (i := 0) E dX7_write_14 rfl rfl ?_
      refine nz_getR (pc := 15) (c := 0) (kf := 0) E rfl rfl (nz_upT nz_uX7) (by decide) (List.mem_cons_of_mem _ nz_w248) rfl rfl dX7_write_15 ?_
      refine nz_iload_n (pc := 18) (i := 1) E dX7_write_18 rfl rfl ?_
      obtain ⟨r3, x4, h5, hf⟩ := nz_bnd_t hf
      refine nz_callVI (pc := 19) (c0 := 1) (As := [.int _]) E rfl rfl (k_X6_append   _ _ _ h5) (nz_cwV E nz_w277 nz_w278 nz_w279 nz_w59 nz_w280 ds_X6_append ⟨Nat.le_of_ble_eq_true rfl, Nat.le_of_ble_eq_true rfl⟩ rfl rfl) rfl rfl (Nat.le_of_ble_eq_true rfl) dX7_write_19 ?_
      exact nz_iret (pc := 22) E hR rfl hf dX7_write_22
    · have hf := nz_ite_f hf h2
      refine nz_bipush (pc := 11) (v := -2) E dX7_write_11 (by decide) ?_
      exact nz_iret (pc := 13) E hR rfl hf dX7_write_13
def f_X6_clear (x : nz_S) : Option (Int32 × nz_S) :=
  let v1 : Int32 := (x.1 1 1)
  let x2 : nz_S := nz_put x 1 1 (0 : Int32)
  some (v1, x2)
theorem ds_X6_clear : nz_dsc yX6_clear 0 := by unfold nz_dsc; decide +kernel
set_option maxHeartbeats 4000000 in
set_option maxRecDepth 20000 in
theorem k_X6_clear {l : Launch} {w : nz_O} {q : Nat → Nat} (x : nz_S) (o : Int32 × nz_S) (hf : f_X6_clear x = some o) : nz_MI l yX6_clear (nz_T yX6_clear cX6_clear 2 (some .int)) (nz_R 0 0) w q nz_tK [.ref (q 1)] x o := by
  refine nz_enterI (by decide) rfl (Nat.le_of_ble_eq_true rfl) rfl rfl ?_
  intro κ E hw hlq hR
  subst hw; subst hlq
  unfold f_X6_clear at hf
  refine nz_weak (lv' := [(0, .ref (q 1))]) ⟨rfl, trivial⟩ ?_
  refine nz_aload_n (pc := 0) (i := 0) E dX6_clear_0 rfl rfl ?_
  refine nz_getI (pc := 1) (c := 1) (kf := 1) E rfl rfl (nz_upT nz_uX6) (by decide) (List.mem_cons_of_mem _ nz_w86) rfl rfl dX6_clear_1 ?_
  refine nz_istore_n (pc := 4) (i := 1) E dX6_clear_4 rfl (by decide) rfl ?_
  refine nz_aload_n (pc := 5) (i := 0) E dX6_clear_5 rfl rfl ?_
  refine nz_iconst (pc := 6) (v := 0) E dX6_clear_6 (by decide) ?_
  refine nz_putI (pc := 7) (c := 1) (kf := 1) E rfl rfl (nz_upT nz_uX6) (by decide) (List.mem_cons_of_mem _ nz_w86) rfl tyX6 tyX6_ok nmX6 rfl (tyX6_ok 1 (by decide)) rfl dX6_clear_7 ?_
  refine nz_iload_n (pc := 10) (i := 1) E dX6_clear_10 rfl rfl ?_
  exact nz_iret (pc := 11) E hR rfl hf dX6_clear_11
def f_X7_wipe (x : nz_S) : Option (Int32 × nz_S) :=
  nz_bnd (f_X6_clear   x) fun r1 x2 =>
  some (r1, x2)
theorem ds_X7_wipe : nz_dsc yX7_wipe 0 := by unfold nz_dsc; decide +kernel
set_option maxHeartbeats 4000000 in
set_option maxRecDepth 20000 in
theorem k_X7_wipe {l : Launch} {w : nz_O} {q : Nat → Nat} (x : nz_S) (o : Int32 × nz_S) (hf : f_X7_wipe x = some o) : nz_MI l yX7_wipe (nz_T yX7_wipe cX7_wipe 1 (some .int)) (nz_R 1 21) w q nz_tK [.ref (q 0)] x o := by
  refine nz_enterI (by decide) rfl (Nat.le_of_ble_eq_true rfl) rfl rfl ?_
  intro κ E hw hlq hR
  subst hw; subst hlq
  unfold f_X7_wipe at hf
  refine nz_weak (lv' := [(0, .ref (q 0))]) ⟨rfl, trivial⟩ ?_
  refine nz_aload_n (pc := 0) (i := 0) E dX7_wipe_0 rfl rfl ?_
  refine nz_getR (pc := 1) (c := 0) (kf := 0) E rfl rfl (nz_upT nz_uX7) (by decide) (List.mem_cons_of_mem _ nz_w248) rfl rfl dX7_wipe_1 ?_
  obtain ⟨r1, x2, h3, hf⟩ := nz_bnd_t hf
  refine nz_callVI (pc := 4) (c0 := 1) (As := []) E rfl rfl (k_X6_clear   _ _ h3) (nz_cwV E nz_w285 nz_w286 nz_w287 nz_w59 nz_w288 ds_X6_clear ⟨Nat.le_of_ble_eq_true rfl, Nat.le_of_ble_eq_true rfl⟩ rfl rfl) rfl rfl (Nat.le_of_ble_eq_true rfl) dX7_wipe_4 ?_
  exact nz_iret (pc := 7) E hR rfl hf dX7_wipe_7
def f_X0_appendBlock (g : Nat) (a0 : Int32) (x : nz_S) : Option (Int32 × nz_S) :=
  if (x.1 g 3) < (12 : Int32) then
    let v2 : Int32 := (x.1 g 3)
    nz_chk (nz_in v2 12) <|
    let x4 : nz_S := nz_put x (g + 1) (v2).toNatClampNeg a0
    let v5 : Int32 := (x4.1 g 3)
    nz_chk (nz_in v5 12) <|
    let x7 : nz_S := nz_put x4 (g + 2) (v5).toNatClampNeg (0 : Int32)
    let x8 : nz_S := nz_put x7 g 3 ((x7.1 g 3) + (1 : Int32))
    some ((1 : Int32), x8)
  else
    some ((0 : Int32), x)
theorem ds_X0_appendBlock : nz_dsc yX0_appendBlock 1 := by unfold nz_dsc; decide +kernel
set_option maxHeartbeats 4000000 in
set_option maxRecDepth 20000 in
theorem k_X0_appendBlock {l : Launch} {w : nz_O} {q : Nat → Nat} (g : Nat) (hg : nz_isG g) (a0 : Int32) (x : nz_S) (o : Int32 × nz_S) (hf : f_X0_appendBlock g a0 x = some o) : nz_MI l yX0_appendBlock (nz_T yX0_appendBlock cX0_appendBlock 2 (some .boolean)) (nz_R 0 0) w q nz_tK [.ref (q g), .int a0] x o := by
  refine nz_enterI (by decide) rfl (Nat.le_of_ble_eq_true rfl) rfl rfl ?_
  intro κ E hw hlq hR
  subst hw; subst hlq
  unfold f_X0_appendBlock at hf
  refine nz_weak (lv' := [(0, .ref (q g)), (1, .int a0)]) ⟨rfl, rfl, trivial⟩ ?_
  refine nz_aload_n (pc := 0) (i := 0) E dX0_appendBlock_0 rfl rfl ?_
  refine nz_getI (pc := 1) (c := g) (kf := 3) E hg.1 rfl (nz_upT nz_uX0) (by decide) (List.mem_cons_of_mem _ nz_w109) rfl rfl dX0_appendBlock_1 ?_
  refine nz_bipush (pc := 4) (v := 12) E dX0_appendBlock_4 (by decide) ?_
  refine nz_icmp_lt (pc := 6) (tgt := 11) E dX0_appendBlock_6 (by decide) (fun h1 => ?_) (fun h1 => ?_)
  · have hf := nz_ite_t hf h1
    refine nz_aload_n (pc := 11) (i := 0) E dX0_appendBlock_11 rfl rfl ?_
    refine nz_getR (pc := 12) (c := g) (kf := 0) E hg.1 rfl (nz_upT nz_uX0) (by decide) (List.mem_cons_of_mem _ nz_w100) rfl rfl dX0_appendBlock_12 ?_
    refine nz_aload_n (pc := 15) (i := 0) E dX0_appendBlock_15 rfl rfl ?_
    refine nz_getI (pc := 16) (c := g) (kf := 3) E hg.1 rfl (nz_upT nz_uX0) (by decide) (List.mem_cons_of_mem _ nz_w109) rfl rfl dX0_appendBlock_16 ?_
    refine nz_iload_n (pc := 19) (i := 1) E dX0_appendBlock_19 rfl rfl ?_
    obtain ⟨h3, hf⟩ := nz_chk_t hf
    refine nz_iast (pc := 20) (c := (g + 1)) E hg.2.1 h3 dX0_appendBlock_20 ?_
    refine nz_aload_n (pc := 21) (i := 0) E dX0_appendBlock_21 rfl rfl ?_
    refine nz_getR (pc := 22) (c := g) (kf := 1) E hg.1 rfl (nz_upT nz_uX0) (by decide) (List.mem_cons_of_mem _ nz_w103) rfl rfl dX0_appendBlock_22 ?_
    refine nz_aload_n (pc := 25) (i := 0) E dX0_appendBlock_25 rfl rfl ?_
    refine nz_getI (pc := 26) (c := g) (kf := 3) E hg.1 rfl (nz_upT nz_uX0) (by decide) (List.mem_cons_of_mem _ nz_w109) rfl rfl dX0_appendBlock_26 ?_
    refine nz_iconst (pc := 29) (v := 0) E dX0_appendBlock_29 (by decide) ?_
    obtain ⟨h6, hf⟩ := nz_chk_t hf
    refine nz_iast (pc := 30) (c := (g + 2)) E hg.2.2.1 h6 dX0_appendBlock_30 ?_
    refine nz_aload_n (pc := 31) (i := 0) E dX0_appendBlock_31 rfl rfl ?_
    refine nz_dup (pc := 32) E dX0_appendBlock_32 rfl ?_
    refine nz_getI (pc := 33) (c := g) (kf := 3) E hg.1 rfl (nz_upT nz_uX0) (by decide) (List.mem_cons_of_mem _ nz_w109) rfl rfl dX0_appendBlock_33 ?_
    refine nz_iconst (pc := 36) (v := 1) E dX0_appendBlock_36 (by decide) ?_
    refine nz_iadd (pc := 37) E dX0_appendBlock_37 ?_
    refine nz_putI (pc := 38) (c := g) (kf := 3) E hg.1 rfl (nz_upT nz_uX0) (by decide) (List.mem_cons_of_mem _ nz_w109) rfl tyX0 tyX0_ok nmX0 rfl (tyX0_ok 3 (by decide)) rfl dX0_appendBlock_38 ?_
    refine nz_iconst (pc := 41) (v := 1) E dX0_appendBlock_41 (by decide) ?_
    exact nz_iret (pc := 42) E hR rfl hf dX0_appendBlock_42
  · have hf := nz_ite_f hf h1
    refine nz_iconst (pc := 9) (v := 0) E dX0_appendBlock_9 (by decide) ?_
    exact nz_iret (pc := 10) E hR rfl hf dX0_appendBlock_10
def f_X0_putArcBehind (g : Nat) (a0 : Int32) (a1 : Int32) (x : nz_S) : Option (Unit × nz_S) :=
  nz_chk (nz_in a0 12) <|
  let v2 : Int32 := ((a0 * (3 : Int32)) + (x.1 (g + 2) (a0).toNatClampNeg))
  nz_chk (nz_in v2 36) <|
  let x4 : nz_S := nz_put x (g + 3) (v2).toNatClampNeg a1
  nz_chk (nz_in a0 12) <|
  nz_chk (nz_in a0 12) <|
  let x7 : nz_S := nz_put x4 (g + 2) (a0).toNatClampNeg ((x4.1 (g + 2) (a0).toNatClampNeg) + (1 : Int32))
  some ((), x7)
theorem ds_X0_putArcBehind : nz_dsc yX0_putArcBehind 2 := by unfold nz_dsc; decide +kernel
set_option maxHeartbeats 4000000 in
set_option maxRecDepth 20000 in
theorem k_X0_putArcBehind {l : Launch} {w : nz_O} {q : Nat → Nat} (g : Nat) (hg : nz_isG g) (a0 : Int32) (a1 : Int32) (x : nz_S) (o : Unit × nz_S) (hf : f_X0_putArcBehind g a0 a1 x = some o) : nz_MV l yX0_putArcBehind (nz_T yX0_putArcBehind cX0_putArcBehind 3 (none)) (nz_R 0 0) w q nz_tK [.ref (q g), .int a0, .int a1] x o := by
  refine nz_enterV (by decide) rfl (Nat.le_of_ble_eq_true rfl) rfl rfl ?_
  intro κ E hw hlq hR
  subst hw; subst hlq
  unfold f_X0_putArcBehind at hf
  refine nz_weak (lv' := [(0, .ref (q g)), (1, .int a0), (2, .int a1)]) ⟨rfl, rfl, rfl, trivial⟩ ?_
  refine nz_aload_n (pc := 0) (i := 0) E dX0_putArcBehind_0 rfl rfl ?_
  refine nz_getR (pc := 1) (c := g) (kf := 2) E hg.1 rfl (nz_upT nz_uX0) (by decide) (List.mem_cons_of_mem _ nz_w107) rfl rfl dX0_putArcBehind_1 ?_
  refine nz_iload_n (pc := 4) (i := 1) E dX0_putArcBehind_4 rfl rfl ?_
  refine nz_iconst (pc := 5) (v := 3) E dX0_putArcBehind_5 (by decide) ?_
  refine nz_imul (pc := 6) E dX0_putArcBehind_6 ?_
  refine nz_aload_n (pc := 7) (i := 0) E dX0_putArcBehind_7 rfl rfl ?_
  refine nz_getR (pc := 8) (c := g) (kf := 1) E hg.1 rfl (nz_upT nz_uX0) (by decide) (List.mem_cons_of_mem _ nz_w103) rfl rfl dX0_putArcBehind_8 ?_
  refine nz_iload_n (pc := 11) (i := 1) E dX0_putArcBehind_11 rfl rfl ?_
  obtain ⟨h1, hf⟩ := nz_chk_t hf
  refine nz_iald (pc := 12) (c := (g + 2)) E hg.2.2.1 h1 dX0_putArcBehind_12 ?_
  refine nz_iadd (pc := 13) E dX0_putArcBehind_13 ?_
  refine nz_iload_n (pc := 14) (i := 2) E dX0_putArcBehind_14 rfl rfl ?_
  obtain ⟨h3, hf⟩ := nz_chk_t hf
  refine nz_iast (pc := 15) (c := (g + 3)) E hg.2.2.2 h3 dX0_putArcBehind_15 ?_
  refine nz_aload_n (pc := 16) (i := 0) E dX0_putArcBehind_16 rfl rfl ?_
  refine nz_getR (pc := 17) (c := g) (kf := 1) E hg.1 rfl (nz_upT nz_uX0) (by decide) (List.mem_cons_of_mem _ nz_w103) rfl rfl dX0_putArcBehind_17 ?_
  refine nz_iload_n (pc := 20) (i := 1) E dX0_putArcBehind_20 rfl rfl ?_
  refine nz_dup2 (pc := 21) E dX0_putArcBehind_21 rfl rfl ?_
  obtain ⟨h5, hf⟩ := nz_chk_t hf
  refine nz_iald (pc := 22) (c := (g + 2)) E hg.2.2.1 h5 dX0_putArcBehind_22 ?_
  refine nz_iconst (pc := 23) (v := 1) E dX0_putArcBehind_23 (by decide) ?_
  refine nz_iadd (pc := 24) E dX0_putArcBehind_24 ?_
  obtain ⟨h6, hf⟩ := nz_chk_t hf
  refine nz_iast (pc := 25) (c := (g + 2)) E hg.2.2.1 h6 dX0_putArcBehind_25 ?_
  exact nz_vret (pc := 26) E hR hf dX0_putArcBehind_26
def f_X0_appendArcToLast (g : Nat) (a0 : Int32) (x : nz_S) : Option (Int32 × nz_S) :=
  if (x.1 g 3) = (0 : Int32) then
    some ((0 : Int32), x)
  else
    let v2 : Int32 := ((x.1 g 3) - (1 : Int32))
    nz_chk (nz_in v2 12) <|
    if (x.1 (g + 2) (v2).toNatClampNeg) < (3 : Int32) then
      nz_bnd (f_X0_putArcBehind g ((x.1 g 3) - (1 : Int32)) a0 x) fun r5 x6 =>
      some ((1 : Int32), x6)
    else
      some ((0 : Int32), x)
theorem ds_X0_appendArcToLast : nz_dsc yX0_appendArcToLast 1 := by unfold nz_dsc; decide +kernel
set_option maxHeartbeats 4000000 in
set_option maxRecDepth 20000 in
theorem k_X0_appendArcToLast {l : Launch} {w : nz_O} {q : Nat → Nat} (g : Nat) (hg : nz_isG g) (a0 : Int32) (x : nz_S) (o : Int32 × nz_S) (hf : f_X0_appendArcToLast g a0 x = some o) : nz_MI l yX0_appendArcToLast (nz_T yX0_appendArcToLast cX0_appendArcToLast 2 (some .boolean)) (nz_R 1 22) w q nz_tK [.ref (q g), .int a0] x o := by
  refine nz_enterI (by decide) rfl (Nat.le_of_ble_eq_true rfl) rfl rfl ?_
  intro κ E hw hlq hR
  subst hw; subst hlq
  unfold f_X0_appendArcToLast at hf
  refine nz_weak (lv' := [(0, .ref (q g)), (1, .int a0)]) ⟨rfl, rfl, trivial⟩ ?_
  refine nz_aload_n (pc := 0) (i := 0) E dX0_appendArcToLast_0 rfl rfl ?_
  refine nz_getI (pc := 1) (c := g) (kf := 3) E hg.1 rfl (nz_upT nz_uX0) (by decide) (List.mem_cons_of_mem _ nz_w109) rfl rfl dX0_appendArcToLast_1 ?_
  refine nz_if_eq (pc := 4) (tgt := 22) E dX0_appendArcToLast_4 (by decide) (fun h1 => ?_) (fun h1 => ?_)
  · have hf := nz_ite_t hf h1
    refine nz_iconst (pc := 22) (v := 0) E dX0_appendArcToLast_22 (by decide) ?_
    exact nz_iret (pc := 23) E hR rfl hf dX0_appendArcToLast_23
  · have hf := nz_ite_f hf h1
    refine nz_aload_n (pc := 7) (i := 0) E dX0_appendArcToLast_7 rfl rfl ?_
    refine nz_getR (pc := 8) (c := g) (kf := 1) E hg.1 rfl (nz_upT nz_uX0) (by decide) (List.mem_cons_of_mem _ nz_w103) rfl rfl dX0_appendArcToLast_8 ?_
    refine nz_aload_n (pc := 11) (i := 0) E dX0_appendArcToLast_11 rfl rfl ?_
    refine nz_getI (pc := 12) (c := g) (kf := 3) E hg.1 rfl (nz_upT nz_uX0) (by decide) (List.mem_cons_of_mem _ nz_w109) rfl rfl dX0_appendArcToLast_12 ?_
    refine nz_iconst (pc := 15) (v := 1) E dX0_appendArcToLast_15 (by decide) ?_
    refine nz_isub (pc := 16) E dX0_appendArcToLast_16 ?_
    obtain ⟨h3, hf⟩ := nz_chk_t hf
    refine nz_iald (pc := 17) (c := (g + 2)) E hg.2.2.1 h3 dX0_appendArcToLast_17 ?_
    refine nz_iconst (pc := 18) (v := 3) E dX0_appendArcToLast_18 (by decide) ?_
    refine nz_icmp_lt (pc := 19) (tgt := 24) E dX0_appendArcToLast_19 (by decide) (fun h4 => ?_) (fun h4 => ?_)
    · have hf := nz_ite_t hf h4
      refine nz_aload_n (pc := 24) (i := 0) E dX0_appendArcToLast_24 rfl rfl ?_
      refine nz_aload_n (pc := 25) (i := 0) E dX0_appendArcToLast_25 rfl rfl ?_
      refine nz_getI (pc := 26) (c := g) (kf := 3) E hg.1 rfl (nz_upT nz_uX0) (by decide) (List.mem_cons_of_mem _ nz_w109) rfl rfl dX0_appendArcToLast_26 ?_
      refine nz_iconst (pc := 29) (v := 1) E dX0_appendArcToLast_29 (by decide) ?_
      refine nz_isub (pc := 30) E dX0_appendArcToLast_30 ?_
      refine nz_iload_n (pc := 31) (i := 1) E dX0_appendArcToLast_31 rfl rfl ?_
      obtain ⟨r5, x6, h7, hf⟩ := nz_bnd_t hf
      refine nz_callVV (pc := 32) (c0 := g) (As := [.int _, .int _]) E hg.1 rfl (k_X0_putArcBehind g hg _ _ _ _ h7) (nz_cwV E nz_w308 nz_w310 nz_w0 nz_w60 nz_w311 ds_X0_putArcBehind ⟨Nat.le_of_ble_eq_true rfl, Nat.le_of_ble_eq_true rfl⟩ rfl rfl) rfl rfl (Nat.le_of_ble_eq_true rfl) dX0_appendArcToLast_32 ?_
      refine nz_iconst (pc := 35) (v := 1) E dX0_appendArcToLast_35 (by decide) ?_
      exact nz_iret (pc := 36) E hR rfl hf dX0_appendArcToLast_36
    · have hf := nz_ite_f hf h4
      refine nz_iconst (pc := 22) (v := 0) E dX0_appendArcToLast_22 (by decide) ?_
      exact nz_iret (pc := 23) E hR rfl hf dX0_appendArcToLast_23
def f_X6_readLetter (g : Nat) (a0 : Int32) (a1 : Int32) (x : nz_S) : Option (Int32 × nz_S) :=
  if a1 < (97 : Int32) then
    let v2 : Int32 := (a1 - (48 : Int32))
    if v2 < (0 : Int32) then
      some ((0 : Int32), x)
    else
      if a0 ≤ v2 then
        some ((0 : Int32), x)
      else
        nz_bnd (f_X0_appendArcToLast g v2 x) fun r5 x6 =>
        if r5 = (0 : Int32) then
          some ((0 : Int32), x6)
        else
          some ((1 : Int32), x6)
  else
    if (122 : Int32) < a1 then
      let v10 : Int32 := (a1 - (48 : Int32))
      if v10 < (0 : Int32) then
        some ((0 : Int32), x)
      else
        if a0 ≤ v10 then
          some ((0 : Int32), x)
        else
          nz_bnd (f_X0_appendArcToLast g v10 x) fun r13 x14 =>
          if r13 = (0 : Int32) then
            some ((0 : Int32), x14)
          else
            some ((1 : Int32), x14)
    else
      if a0 ≤ (x.1 g 3) then
        some ((0 : Int32), x)
      else
        nz_bnd (f_X0_appendBlock g a1 x) fun r18 x19 =>
        if r18 = (0 : Int32) then
          some ((0 : Int32), x19)
        else
          some ((1 : Int32), x19)
theorem ds_X6_readLetter : nz_dsc yX6_readLetter 3 := by unfold nz_dsc; decide +kernel
set_option maxHeartbeats 4000000 in
set_option maxRecDepth 20000 in
theorem k_X6_readLetter {l : Launch} {w : nz_O} {q : Nat → Nat} (g : Nat) (hg : nz_isG g) (a0 : Int32) (a1 : Int32) (x : nz_S) (o : Int32 × nz_S) (hf : f_X6_readLetter g a0 a1 x = some o) : nz_MI l yX6_readLetter (nz_T yX6_readLetter cX6_readLetter 4 (some .boolean)) (nz_R 2 43) w q nz_tK [.ref (q g), .int a0, .int a1] x o := by
  refine nz_enterI (by decide) rfl (Nat.le_of_ble_eq_true rfl) rfl rfl ?_
  intro κ E hw hlq hR
  subst hw; subst hlq
  unfold f_X6_readLetter at hf
  refine nz_weak (lv' := [(0, .ref (q g)), (1, .int a0), (2, .int a1)]) ⟨rfl, rfl, rfl, trivial⟩ ?_
  refine nz_iload_n (pc := 0) (i := 2) E dX6_readLetter_0 rfl rfl ?_
  refine nz_bipush (pc := 1) (v := 97) E dX6_readLetter_1 (by decide) ?_
  refine nz_icmp_lt (pc := 3) (tgt := 34) E dX6_readLetter_3 (by decide) (fun h1 => ?_) (fun h1 => ?_)
  · have hf := nz_ite_t hf h1
    refine nz_iload_n (pc := 34) (i := 2) E dX6_readLetter_34 rfl rfl ?_
    refine nz_bipush (pc := 35) (v := 48) E dX6_readLetter_35 (by decide) ?_
    refine nz_isub (pc := 37) E dX6_readLetter_37 ?_
    refine nz_istore_n (pc := 38) (i := 3) E dX6_readLetter_38 rfl (by decide) rfl ?_
    refine nz_iload_n (pc := 39) (i := 3) E dX6_readLetter_39 rfl rfl ?_
    refine nz_if_lt (pc := 40) (tgt := 60) E dX6_readLetter_40 (by decide) (fun h3 => ?_) (fun h3 => ?_)
    · have hf := nz_ite_t hf h3
      refine nz_iconst (pc := 60) (v := 0) E dX6_readLetter_60 (by decide) ?_
      exact nz_iret (pc := 61) E hR rfl hf dX6_readLetter_61
    · have hf := nz_ite_f hf h3
      refine nz_iload_n (pc := 43) (i := 3) E dX6_readLetter_43 rfl rfl ?_
      refine nz_iload_n (pc := 44) (i := 1) E dX6_readLetter_44 rfl rfl ?_
      refine nz_icmp_ge (pc := 45) (tgt := 60) E dX6_readLetter_45 (by decide) (fun h4 => ?_) (fun h4 => ?_)
      · have hf := nz_ite_t hf h4
        refine nz_iconst (pc := 60) (v := 0) E dX6_readLetter_60 (by decide) ?_
        exact nz_iret (pc := 61) E hR rfl hf dX6_readLetter_61
      · have hf := nz_ite_f hf h4
        refine nz_aload_n (pc := 48) (i := 0) E dX6_readLetter_48 rfl rfl ?_
        refine nz_iload_n (pc := 49) (i := 3) E dX6_readLetter_49 rfl rfl ?_
        obtain ⟨r5, x6, h7, hf⟩ := nz_bnd_t hf
        refine nz_callVI (pc := 50) (c0 := g) (As := [.int _]) E hg.1 rfl (k_X0_appendArcToLast g hg _ _ _ h7) (nz_cwV E nz_w304 nz_w305 nz_w306 nz_w60 nz_w307 ds_X0_appendArcToLast ⟨Nat.le_of_ble_eq_true rfl, Nat.le_of_ble_eq_true rfl⟩ rfl rfl) rfl rfl (Nat.le_of_ble_eq_true rfl) dX6_readLetter_50 ?_
        refine nz_if_eq (pc := 53) (tgt := 60) E dX6_readLetter_53 (by decide) (fun h8 => ?_) (fun h8 => ?_)
        · have hf := nz_ite_t hf h8
          refine nz_iconst (pc := 60) (v := 0) E dX6_readLetter_60 (by decide) ?_
          exact nz_iret (pc := 61) E hR rfl hf dX6_readLetter_61
        · have hf := nz_ite_f hf h8
          refine nz_iconst (pc := 56) (v := 1) E dX6_readLetter_56 (by decide) ?_
          refine nz_goto (pc := 57) (tgt := 61) E dX6_readLetter_57 (by decide) ?_
          exact nz_iret (pc := 61) E hR rfl hf dX6_readLetter_61
  · have hf := nz_ite_f hf h1
    refine nz_iload_n (pc := 6) (i := 2) E dX6_readLetter_6 rfl rfl ?_
    refine nz_bipush (pc := 7) (v := 122) E dX6_readLetter_7 (by decide) ?_
    refine nz_icmp_gt (pc := 9) (tgt := 34) E dX6_readLetter_9 (by decide) (fun h9 => ?_) (fun h9 => ?_)
    · have hf := nz_ite_t hf h9
      refine nz_iload_n (pc := 34) (i := 2) E dX6_readLetter_34 rfl rfl ?_
      refine nz_bipush (pc := 35) (v := 48) E dX6_readLetter_35 (by decide) ?_
      refine nz_isub (pc := 37) E dX6_readLetter_37 ?_
      refine nz_istore_n (pc := 38) (i := 3) E dX6_readLetter_38 rfl (by decide) rfl ?_
      refine nz_iload_n (pc := 39) (i := 3) E dX6_readLetter_39 rfl rfl ?_
      refine nz_if_lt (pc := 40) (tgt := 60) E dX6_readLetter_40 (by decide) (fun h11 => ?_) (fun h11 => ?_)
      · have hf := nz_ite_t hf h11
        refine nz_iconst (pc := 60) (v := 0) E dX6_readLetter_60 (by decide) ?_
        exact nz_iret (pc := 61) E hR rfl hf dX6_readLetter_61
      · have hf := nz_ite_f hf h11
        refine nz_iload_n (pc := 43) (i := 3) E dX6_readLetter_43 rfl rfl ?_
        refine nz_iload_n (pc := 44) (i := 1) E dX6_readLetter_44 rfl rfl ?_
        refine nz_icmp_ge (pc := 45) (tgt := 60) E dX6_readLetter_45 (by decide) (fun h12 => ?_) (fun h12 => ?_)
        · have hf := nz_ite_t hf h12
          refine nz_iconst (pc := 60) (v := 0) E dX6_readLetter_60 (by decide) ?_
          exact nz_iret (pc := 61) E hR rfl hf dX6_readLetter_61
        · have hf := nz_ite_f hf h12
          refine nz_aload_n (pc := 48) (i := 0) E dX6_readLetter_48 rfl rfl ?_
          refine nz_iload_n (pc := 49) (i := 3) E dX6_readLetter_49 rfl rfl ?_
          obtain ⟨r13, x14, h15, hf⟩ := nz_bnd_t hf
          refine nz_callVI (pc := 50) (c0 := g) (As := [.int _]) E hg.1 rfl (k_X0_appendArcToLast g hg _ _ _ h15) (nz_cwV E nz_w304 nz_w305 nz_w306 nz_w60 nz_w307 ds_X0_appendArcToLast ⟨Nat.le_of_ble_eq_true rfl, Nat.le_of_ble_eq_true rfl⟩ rfl rfl) rfl rfl (Nat.le_of_ble_eq_true rfl) dX6_readLetter_50 ?_
          refine nz_if_eq (pc := 53) (tgt := 60) E dX6_readLetter_53 (by decide) (fun h16 => ?_) (fun h16 => ?_)
          · have hf := nz_ite_t hf h16
            refine nz_iconst (pc := 60) (v := 0) E dX6_readLetter_60 (by decide) ?_
            exact nz_iret (pc := 61) E hR rfl hf dX6_readLetter_61
          · have hf := nz_ite_f hf h16
            refine nz_iconst (pc := 56) (v := 1) E dX6_readLetter_56 (by decide) ?_
            refine nz_goto (pc := 57) (tgt := 61) E dX6_readLetter_57 (by decide) ?_
            exact nz_iret (pc := 61) E hR rfl hf dX6_readLetter_61
    · have hf := nz_ite_f hf h9
      refine nz_aload_n (pc := 12) (i := 0) E dX6_readLetter_12 rfl rfl ?_
      refine nz_getNI (pc := 13) (c := g) (kf := 3) E hg.1 rfl (nz_upT nz_uX0) (by decide) nz_n112 rfl rfl dX6_readLetter_13 ?_
      refine nz_iload_n (pc := 16) (i := 1) E dX6_readLetter_16 rfl rfl ?_
      refine nz_icmp_ge (pc := 17) (tgt := 32) E dX6_readLetter_17 (by decide) (fun h17 => ?_) (fun h17 => ?_)
      · have hf := nz_ite_t hf h17
        refine nz_iconst (pc := 32) (v := 0) E dX6_readLetter_32 (by decide) ?_
        exact nz_iret (pc := 33) E hR rfl hf dX6_readLetter_33
      · have hf := nz_ite_f hf h17
        refine nz_aload_n (pc := 20) (i := 0) E dX6_readLetter_20 rfl rfl ?_
        refine nz_iload_n (pc := 21) (i := 2) E dX6_readLetter_21 rfl rfl ?_
        obtain ⟨r18, x19, h20, hf⟩ := nz_bnd_t hf
        refine nz_callVI (pc := 22) (c0 := g) (As := [.int _]) E hg.1 rfl (k_X0_appendBlock g hg _ _ _ h20) (nz_cwV E nz_w300 nz_w301 nz_w302 nz_w60 nz_w303 ds_X0_appendBlock ⟨Nat.le_of_ble_eq_true rfl, Nat.le_of_ble_eq_true rfl⟩ rfl rfl) rfl rfl (Nat.le_of_ble_eq_true rfl) dX6_readLetter_22 ?_
        refine nz_if_eq (pc := 25) (tgt := 32) E dX6_readLetter_25 (by decide) (fun h21 => ?_) (fun h21 => ?_)
        · have hf := nz_ite_t hf h21
          refine nz_iconst (pc := 32) (v := 0) E dX6_readLetter_32 (by decide) ?_
          exact nz_iret (pc := 33) E hR rfl hf dX6_readLetter_33
        · have hf := nz_ite_f hf h21
          refine nz_iconst (pc := 28) (v := 1) E dX6_readLetter_28 (by decide) ?_
          refine nz_goto (pc := 29) (tgt := 33) E dX6_readLetter_29 (by decide) ?_
          exact nz_iret (pc := 33) E hR rfl hf dX6_readLetter_33
def f_X6_readInto_60 (g : Nat) (c2 : Int32) : Nat → Int32 → nz_S → (Int32 → nz_S → Option (Int32 × nz_S)) → Option (Int32 × nz_S)
  | 0, _, _, _ => none
  | fu + 1, w3, x, K =>
  if (x.1 1 1) ≤ w3 then
    K w3 x
  else
    nz_chk (nz_in w3 64) <|
    nz_bnd (f_X6_readLetter g c2 (x.1 2 (w3).toNatClampNeg) x) fun r12 x13 =>
    if r12 = (0 : Int32) then
      some (w3, x13)
    else
      let v16 : Int32 := w3 + 1
      f_X6_readInto_60 g c2 fu v16 x13 K
def f_X6_readInto (g : Nat) (x : nz_S) : Option (Int32 × nz_S) :=
  let x1 : nz_S := nz_put x g 3 (0 : Int32)
  if (x1.1 1 1) = (0 : Int32) then
    some ((0 : Int32), x1)
  else
    nz_chk (nz_in (0 : Int32) 64) <|
    if (x1.1 2 ((0 : Int32)).toNatClampNeg) = (71 : Int32) then
      if (x1.1 1 1) = (1 : Int32) then
        some ((1 : Int32), x1)
      else
        nz_chk (nz_in (1 : Int32) 64) <|
        let v7 : Int32 := ((x1.1 2 ((1 : Int32)).toNatClampNeg) - (48 : Int32))
        if v7 < (1 : Int32) then
          some ((1 : Int32), x1)
        else
          if v7 ≤ (8 : Int32) then
            f_X6_readInto_60 g v7 nz_F (2 : Int32) x1 fun u18 x17 =>
              if v7 ≤ (x17.1 g 3) then
                some ((-9 : Int32), x17)
              else
                some ((x17.1 1 1), x17)
          else
            some ((1 : Int32), x1)
    else
      some ((0 : Int32), x1)
theorem ds_X6_readInto : nz_dsc yX6_readInto 1 := by unfold nz_dsc; decide +kernel
set_option maxHeartbeats 4000000 in
set_option maxRecDepth 20000 in
theorem w_X6_readInto_60 {κ : nz_C} {q : Nat → Nat} {o : Int32 × nz_S} (g : Nat) (hg : nz_isG g) (c2 : Int32) (E : nz_Env κ q nz_tK 4 cX6_readInto RX6 (nz_T yX6_readInto cX6_readInto 4 (some .int)) (nz_R 3 66)) (hR : nz_RI κ q nz_tK .int o) : ∀ (fu : Nat) (w3 : Int32) (x : nz_S) (K : Int32 → nz_S → Option (Int32 × nz_S)), f_X6_readInto_60 g c2 fu w3 x K = some o → (∀ (w3 : Int32) (x : nz_S), K w3 x = some o → nz_St κ q nz_tK 4 90 [(0, .ref (q 1)), (1, .ref (q g)), (2, .int c2), (3, .int w3)] [] x) → nz_St κ q nz_tK 4 60 [(0, .ref (q 1)), (1, .ref (q g)), (2, .int c2), (3, .int w3)] [] x := by
  intro fu
  induction fu with
  | zero => intro w3 x K hf; rw [f_X6_readInto_60] at hf; cases hf
  | succ fu ih =>
    intro w3 x K hf hK
    rw [f_X6_readInto_60] at hf
    refine nz_iload_n (pc := 60) (i := 3) E dX6_readInto_60 rfl rfl ?_
    refine nz_aload_n (pc := 61) (i := 0) E dX6_readInto_61 rfl rfl ?_
    refine nz_getI (pc := 62) (c := 1) (kf := 1) E rfl rfl (nz_upT nz_uX6) (by decide) (List.mem_cons_of_mem _ nz_w86) rfl rfl dX6_readInto_62 ?_
    refine nz_icmp_ge (pc := 65) (tgt := 90) E dX6_readInto_65 (by decide) (fun h10 => ?_) (fun h10 => ?_)
    · have hf := nz_ite_t hf h10
      refine nz_weak (lv' := [(0, .ref (q 1)), (1, .ref (q g)), (2, .int _), (3, .int _)]) ⟨rfl, rfl, rfl, rfl, trivial⟩ ?_
      exact hK _ _ hf
    · have hf := nz_ite_f hf h10
      refine nz_aload_n (pc := 68) (i := 1) E dX6_readInto_68 rfl rfl ?_
      refine nz_iload_n (pc := 69) (i := 2) E dX6_readInto_69 rfl rfl ?_
      refine nz_aload_n (pc := 70) (i := 0) E dX6_readInto_70 rfl rfl ?_
      refine nz_getR (pc := 71) (c := 1) (kf := 0) E rfl rfl (nz_upT nz_uX6) (by decide) (List.mem_cons_of_mem _ nz_w85) rfl rfl dX6_readInto_71 ?_
      refine nz_iload_n (pc := 74) (i := 3) E dX6_readInto_74 rfl rfl ?_
      obtain ⟨h11, hf⟩ := nz_chk_t hf
      refine nz_iald (pc := 75) (c := 2) E rfl h11 dX6_readInto_75 ?_
      obtain ⟨r12, x13, h14, hf⟩ := nz_bnd_t hf
      refine nz_callSI (pc := 76) (As := [.ref (q g), .int _, .int _]) E (k_X6_readLetter g hg _ _ _ _ h14) (nz_cwS E nz_w297 nz_w298 nz_w59 nz_w299 ds_X6_readLetter ⟨Nat.le_of_ble_eq_true rfl, Nat.le_of_ble_eq_true rfl⟩ rfl rfl) rfl rfl (Nat.le_of_ble_eq_true rfl) dX6_readInto_76 ?_
      refine nz_if_ne (pc := 79) (tgt := 84) E dX6_readInto_79 (by decide) (fun h15 => ?_) (fun h15 => ?_)
      · have hf := nz_ite_f hf h15
        refine nz_iinc (pc := 84) (i := 3) (w := 1) E dX6_readInto_84 rfl (by decide) (by decide) rfl ?_
        refine nz_goto (pc := 87) (tgt := 60) E dX6_readInto_87 (by decide) ?_
        refine nz_weak (lv' := [(0, .ref (q 1)), (1, .ref (q g)), (2, .int _), (3, .int _)]) ⟨rfl, rfl, rfl, rfl, trivial⟩ ?_
        exact ih _ _ _ hf hK
      · have hf := nz_ite_t hf h15
        refine nz_iload_n (pc := 82) (i := 3) E dX6_readInto_82 rfl rfl ?_
        exact nz_iret (pc := 83) E hR rfl hf dX6_readInto_83
set_option maxHeartbeats 4000000 in
set_option maxRecDepth 20000 in
theorem k_X6_readInto {l : Launch} {w : nz_O} {q : Nat → Nat} (g : Nat) (hg : nz_isG g) (x : nz_S) (o : Int32 × nz_S) (hf : f_X6_readInto g x = some o) : nz_MI l yX6_readInto (nz_T yX6_readInto cX6_readInto 4 (some .int)) (nz_R 3 66) w q nz_tK [.ref (q 1), .ref (q g)] x o := by
  refine nz_enterI (by decide) rfl (Nat.le_of_ble_eq_true rfl) rfl rfl ?_
  intro κ E hw hlq hR
  subst hw; subst hlq
  unfold f_X6_readInto at hf
  refine nz_weak (lv' := [(0, .ref (q 1)), (1, .ref (q g))]) ⟨rfl, rfl, trivial⟩ ?_
  refine nz_aload_n (pc := 0) (i := 1) E dX6_readInto_0 rfl rfl ?_
  refine nz_iconst (pc := 1) (v := 0) E dX6_readInto_1 (by decide) ?_
  refine nz_putNI (pc := 2) (c := g) (kf := 3) E hg.1 rfl (nz_upT nz_uX0) (by decide) nz_n112 rfl tyX0 tyX0_ok nmX0 rfl (tyX0_ok 3 (by decide)) rfl dX6_readInto_2 ?_
  refine nz_aload_n (pc := 5) (i := 0) E dX6_readInto_5 rfl rfl ?_
  refine nz_getI (pc := 6) (c := 1) (kf := 1) E rfl rfl (nz_upT nz_uX6) (by decide) (List.mem_cons_of_mem _ nz_w86) rfl rfl dX6_readInto_6 ?_
  refine nz_if_eq (pc := 9) (tgt := 23) E dX6_readInto_9 (by decide) (fun h2 => ?_) (fun h2 => ?_)
  · have hf := nz_ite_t hf h2
    refine nz_iconst (pc := 23) (v := 0) E dX6_readInto_23 (by decide) ?_
    exact nz_iret (pc := 24) E hR rfl hf dX6_readInto_24
  · have hf := nz_ite_f hf h2
    refine nz_aload_n (pc := 12) (i := 0) E dX6_readInto_12 rfl rfl ?_
    refine nz_getR (pc := 13) (c := 1) (kf := 0) E rfl rfl (nz_upT nz_uX6) (by decide) (List.mem_cons_of_mem _ nz_w85) rfl rfl dX6_readInto_13 ?_
    refine nz_iconst (pc := 16) (v := 0) E dX6_readInto_16 (by decide) ?_
    obtain ⟨h3, hf⟩ := nz_chk_t hf
    refine nz_iald (pc := 17) (c := 2) E rfl h3 dX6_readInto_17 ?_
    refine nz_bipush (pc := 18) (v := 71) E dX6_readInto_18 (by decide) ?_
    refine nz_icmp_eq (pc := 20) (tgt := 25) E dX6_readInto_20 (by decide) (fun h4 => ?_) (fun h4 => ?_)
    · have hf := nz_ite_t hf h4
      refine nz_aload_n (pc := 25) (i := 0) E dX6_readInto_25 rfl rfl ?_
      refine nz_getI (pc := 26) (c := 1) (kf := 1) E rfl rfl (nz_upT nz_uX6) (by decide) (List.mem_cons_of_mem _ nz_w86) rfl rfl dX6_readInto_26 ?_
      refine nz_iconst (pc := 29) (v := 1) E dX6_readInto_29 (by decide) ?_
      refine nz_icmp_ne (pc := 30) (tgt := 35) E dX6_readInto_30 (by decide) (fun h5 => ?_) (fun h5 => ?_)
      · have hf := nz_ite_f hf h5
        refine nz_aload_n (pc := 35) (i := 0) E dX6_readInto_35 rfl rfl ?_
        refine nz_getR (pc := 36) (c := 1) (kf := 0) E rfl rfl (nz_upT nz_uX6) (by decide) (List.mem_cons_of_mem _ nz_w85) rfl rfl dX6_readInto_36 ?_
        refine nz_iconst (pc := 39) (v := 1) E dX6_readInto_39 (by decide) ?_
        obtain ⟨h6, hf⟩ := nz_chk_t hf
        refine nz_iald (pc := 40) (c := 2) E rfl h6 dX6_readInto_40 ?_
        refine nz_bipush (pc := 41) (v := 48) E dX6_readInto_41 (by decide) ?_
        refine nz_isub (pc := 43) E dX6_readInto_43 ?_
        refine nz_istore_n (pc := 44) (i := 2) E dX6_readInto_44 rfl (by decide) rfl ?_
        refine nz_iload_n (pc := 45) (i := 2) E dX6_readInto_45 rfl rfl ?_
        refine nz_iconst (pc := 46) (v := 1) E dX6_readInto_46 (by decide) ?_
        refine nz_icmp_lt (pc := 47) (tgt := 56) E dX6_readInto_47 (by decide) (fun h8 => ?_) (fun h8 => ?_)
        · have hf := nz_ite_t hf h8
          refine nz_iconst (pc := 56) (v := 1) E dX6_readInto_56 (by decide) ?_
          exact nz_iret (pc := 57) E hR rfl hf dX6_readInto_57
        · have hf := nz_ite_f hf h8
          refine nz_iload_n (pc := 50) (i := 2) E dX6_readInto_50 rfl rfl ?_
          refine nz_bipush (pc := 51) (v := 8) E dX6_readInto_51 (by decide) ?_
          refine nz_icmp_le (pc := 53) (tgt := 58) E dX6_readInto_53 (by decide) (fun h9 => ?_) (fun h9 => ?_)
          · have hf := nz_ite_t hf h9
            refine nz_iconst (pc := 58) (v := 2) E dX6_readInto_58 (by decide) ?_
            refine nz_istore_n (pc := 59) (i := 3) E dX6_readInto_59 rfl (by decide) rfl ?_
            refine nz_weak (lv' := [(0, .ref (q 1)), (1, .ref (q g)), (2, .int _), (3, .int _)]) ⟨rfl, rfl, rfl, rfl, trivial⟩ ?_
            refine w_X6_readInto_60 g hg _ E hR _ _ _ _ hf (fun u18 x17 hf => ?_)
            refine nz_aload_n (pc := 90) (i := 1) E dX6_readInto_90 rfl rfl ?_
            refine nz_getNI (pc := 91) (c := g) (kf := 3) E hg.1 rfl (nz_upT nz_uX0) (by decide) nz_n112 rfl rfl dX6_readInto_91 ?_
            refine nz_iload_n (pc := 94) (i := 2) E dX6_readInto_94 rfl rfl ?_
            refine nz_icmp_ge (pc := 95) (tgt := 105) E dX6_readInto_95 (by decide) (fun h19 => ?_) (fun h19 => ?_)
            · have hf := nz_ite_t hf h19
              refine nz_bipush (pc := 105) (v := -9) E dX6_readInto_105 (by decide) ?_
              exact nz_iret (pc := 107) E hR rfl hf dX6_readInto_107
            · have hf := nz_ite_f hf h19
              refine nz_aload_n (pc := 98) (i := 0) E dX6_readInto_98 rfl rfl ?_
              refine nz_getI (pc := 99) (c := 1) (kf := 1) E rfl rfl (nz_upT nz_uX6) (by decide) (List.mem_cons_of_mem _ nz_w86) rfl rfl dX6_readInto_99 ?_
              refine nz_goto (pc := 102) (tgt := 107) E dX6_readInto_102 (by decide) ?_
              exact nz_iret (pc := 107) E hR rfl hf dX6_readInto_107
          · have hf := nz_ite_f hf h9
            refine nz_iconst (pc := 56) (v := 1) E dX6_readInto_56 (by decide) ?_
            exact nz_iret (pc := 57) E hR rfl hf dX6_readInto_57
      · have hf := nz_ite_t hf h5
        refine nz_iconst (pc := 33) (v := 1) E dX6_readInto_33 (by decide) ?_
        exact nz_iret (pc := 34) E hR rfl hf dX6_readInto_34
    · have hf := nz_ite_f hf h4
      refine nz_iconst (pc := 23) (v := 0) E dX6_readInto_23 (by decide) ?_
      exact nz_iret (pc := 24) E hR rfl hf dX6_readInto_24
def f_X7_fault (x : nz_S) : Option (Int32 × nz_S) :=
  nz_bnd (f_X6_readInto 7  x) fun r1 x2 =>
  some (r1, x2)
theorem ds_X7_fault : nz_dsc yX7_fault 0 := by unfold nz_dsc; decide +kernel
set_option maxHeartbeats 4000000 in
set_option maxRecDepth 20000 in
theorem k_X7_fault {l : Launch} {w : nz_O} {q : Nat → Nat} (x : nz_S) (o : Int32 × nz_S) (hf : f_X7_fault x = some o) : nz_MI l yX7_fault (nz_T yX7_fault cX7_fault 1 (some .int)) (nz_R 4 89) w q nz_tK [.ref (q 0)] x o := by
  refine nz_enterI (by decide) rfl (Nat.le_of_ble_eq_true rfl) rfl rfl ?_
  intro κ E hw hlq hR
  subst hw; subst hlq
  unfold f_X7_fault at hf
  refine nz_weak (lv' := [(0, .ref (q 0))]) ⟨rfl, trivial⟩ ?_
  refine nz_aload_n (pc := 0) (i := 0) E dX7_fault_0 rfl rfl ?_
  refine nz_getR (pc := 1) (c := 0) (kf := 0) E rfl rfl (nz_upT nz_uX7) (by decide) (List.mem_cons_of_mem _ nz_w248) rfl rfl dX7_fault_1 ?_
  refine nz_aload_n (pc := 4) (i := 0) E dX7_fault_4 rfl rfl ?_
  refine nz_getR (pc := 5) (c := 0) (kf := 2) E rfl rfl (nz_upT nz_uX7) (by decide) (List.mem_cons_of_mem _ nz_w250) rfl rfl dX7_fault_5 ?_
  obtain ⟨r1, x2, h3, hf⟩ := nz_bnd_t hf
  refine nz_callVI (pc := 8) (c0 := 1) (As := [.ref (q 7)]) E rfl rfl (k_X6_readInto 7 nz_g7 _ _ h3) (nz_cwV E nz_w293 nz_w294 nz_w295 nz_w59 nz_w296 ds_X6_readInto ⟨Nat.le_of_ble_eq_true rfl, Nat.le_of_ble_eq_true rfl⟩ rfl rfl) rfl rfl (Nat.le_of_ble_eq_true rfl) dX7_fault_8 ?_
  exact nz_iret (pc := 11) E hR rfl hf dX7_fault_11
def f_X0_copyFrom (g : Nat) (g2 : Nat) (x : nz_S) : Option (Unit × nz_S) :=
  let x1 : nz_S := nz_put x g 3 (x.1 g2 3)
  nz_chk (nz_cpok (0 : Int32) (0 : Int32) (12 : Int32) 12 12) <|
  let x3 : nz_S := nz_set x1 (g + 1) (va_cpy (x1.1 (g2 + 1)) (x1.1 (g + 1)) ((0 : Int32)).toNatClampNeg ((0 : Int32)).toNatClampNeg ((12 : Int32)).toNatClampNeg)
  nz_chk (nz_cpok (0 : Int32) (0 : Int32) (12 : Int32) 12 12) <|
  let x5 : nz_S := nz_set x3 (g + 2) (va_cpy (x3.1 (g2 + 2)) (x3.1 (g + 2)) ((0 : Int32)).toNatClampNeg ((0 : Int32)).toNatClampNeg ((12 : Int32)).toNatClampNeg)
  nz_chk (nz_cpok (0 : Int32) (0 : Int32) (36 : Int32) 36 36) <|
  let x7 : nz_S := nz_set x5 (g + 3) (va_cpy (x5.1 (g2 + 3)) (x5.1 (g + 3)) ((0 : Int32)).toNatClampNeg ((0 : Int32)).toNatClampNeg ((36 : Int32)).toNatClampNeg)
  some ((), x7)
theorem ds_X0_copyFrom : nz_dsc yX0_copyFrom 1 := by unfold nz_dsc; decide +kernel
set_option maxHeartbeats 4000000 in
set_option maxRecDepth 20000 in
theorem k_X0_copyFrom {l : Launch} {w : nz_O} {q : Nat → Nat} (g : Nat) (g2 : Nat) (hg : nz_isG g) (hg2 : nz_isG g2) (x : nz_S) (o : Unit × nz_S) (hf : f_X0_copyFrom g g2 x = some o) : nz_MV l yX0_copyFrom (nz_T yX0_copyFrom cX0_copyFrom 2 (none)) (nz_R 1 40) w q nz_tK [.ref (q g), .ref (q g2)] x o := by
  refine nz_enterV (by decide) rfl (Nat.le_of_ble_eq_true rfl) rfl rfl ?_
  intro κ E hw hlq hR
  subst hw; subst hlq
  unfold f_X0_copyFrom at hf
  refine nz_weak (lv' := [(0, .ref (q g)), (1, .ref (q g2))]) ⟨rfl, rfl, trivial⟩ ?_
  refine nz_aload_n (pc := 0) (i := 0) E dX0_copyFrom_0 rfl rfl ?_
  refine nz_aload_n (pc := 1) (i := 1) E dX0_copyFrom_1 rfl rfl ?_
  refine nz_getI (pc := 2) (c := g2) (kf := 3) E hg2.1 rfl (nz_upT nz_uX0) (by decide) (List.mem_cons_of_mem _ nz_w109) rfl rfl dX0_copyFrom_2 ?_
  refine nz_putI (pc := 5) (c := g) (kf := 3) E hg.1 rfl (nz_upT nz_uX0) (by decide) (List.mem_cons_of_mem _ nz_w109) rfl tyX0 tyX0_ok nmX0 rfl (tyX0_ok 3 (by decide)) rfl dX0_copyFrom_5 ?_
  refine nz_aload_n (pc := 8) (i := 1) E dX0_copyFrom_8 rfl rfl ?_
  refine nz_getR (pc := 9) (c := g2) (kf := 0) E hg2.1 rfl (nz_upT nz_uX0) (by decide) (List.mem_cons_of_mem _ nz_w100) rfl rfl dX0_copyFrom_9 ?_
  refine nz_iconst (pc := 12) (v := 0) E dX0_copyFrom_12 (by decide) ?_
  refine nz_aload_n (pc := 13) (i := 0) E dX0_copyFrom_13 rfl rfl ?_
  refine nz_getR (pc := 14) (c := g) (kf := 0) E hg.1 rfl (nz_upT nz_uX0) (by decide) (List.mem_cons_of_mem _ nz_w100) rfl rfl dX0_copyFrom_14 ?_
  refine nz_iconst (pc := 17) (v := 0) E dX0_copyFrom_17 (by decide) ?_
  refine nz_bipush (pc := 18) (v := 12) E dX0_copyFrom_18 (by decide) ?_
  obtain ⟨h2, hf⟩ := nz_chk_t hf
  refine nz_copy (pc := 20) (c1 := (g2 + 1)) (c2 := (g + 1)) E hg2.2.1 hg.2.1 nz_w320 nz_w322 nz_w321 nz_w68 h2 (by decide) (by decide) dX0_copyFrom_20 ?_
  refine nz_aload_n (pc := 23) (i := 1) E dX0_copyFrom_23 rfl rfl ?_
  refine nz_getR (pc := 24) (c := g2) (kf := 1) E hg2.1 rfl (nz_upT nz_uX0) (by decide) (List.mem_cons_of_mem _ nz_w103) rfl rfl dX0_copyFrom_24 ?_
  refine nz_iconst (pc := 27) (v := 0) E dX0_copyFrom_27 (by decide) ?_
  refine nz_aload_n (pc := 28) (i := 0) E dX0_copyFrom_28 rfl rfl ?_
  refine nz_getR (pc := 29) (c := g) (kf := 1) E hg.1 rfl (nz_upT nz_uX0) (by decide) (List.mem_cons_of_mem _ nz_w103) rfl rfl dX0_copyFrom_29 ?_
  refine nz_iconst (pc := 32) (v := 0) E dX0_copyFrom_32 (by decide) ?_
  refine nz_bipush (pc := 33) (v := 12) E dX0_copyFrom_33 (by decide) ?_
  obtain ⟨h4, hf⟩ := nz_chk_t hf
  refine nz_copy (pc := 35) (c1 := (g2 + 2)) (c2 := (g + 2)) E hg2.2.2.1 hg.2.2.1 nz_w320 nz_w322 nz_w321 nz_w68 h4 (by decide) (by decide) dX0_copyFrom_35 ?_
  refine nz_aload_n (pc := 38) (i := 1) E dX0_copyFrom_38 rfl rfl ?_
  refine nz_getR (pc := 39) (c := g2) (kf := 2) E hg2.1 rfl (nz_upT nz_uX0) (by decide) (List.mem_cons_of_mem _ nz_w107) rfl rfl dX0_copyFrom_39 ?_
  refine nz_iconst (pc := 42) (v := 0) E dX0_copyFrom_42 (by decide) ?_
  refine nz_aload_n (pc := 43) (i := 0) E dX0_copyFrom_43 rfl rfl ?_
  refine nz_getR (pc := 44) (c := g) (kf := 2) E hg.1 rfl (nz_upT nz_uX0) (by decide) (List.mem_cons_of_mem _ nz_w107) rfl rfl dX0_copyFrom_44 ?_
  refine nz_iconst (pc := 47) (v := 0) E dX0_copyFrom_47 (by decide) ?_
  refine nz_bipush (pc := 48) (v := 36) E dX0_copyFrom_48 (by decide) ?_
  obtain ⟨h6, hf⟩ := nz_chk_t hf
  refine nz_copy (pc := 50) (c1 := (g2 + 3)) (c2 := (g + 3)) E hg2.2.2.2 hg.2.2.2 nz_w320 nz_w322 nz_w321 nz_w68 h6 (by decide) (by decide) dX0_copyFrom_50 ?_
  exact nz_vret (pc := 53) E hR hf dX0_copyFrom_53
def f_X1_forget (x : nz_S) : Option (Unit × nz_S) :=
  let x1 : nz_S := nz_put x 20 1 (0 : Int32)
  let x2 : nz_S := nz_put x1 20 2 (0 : Int32)
  some ((), x2)
theorem ds_X1_forget : nz_dsc yX1_forget 0 := by unfold nz_dsc; decide +kernel
set_option maxHeartbeats 4000000 in
set_option maxRecDepth 20000 in
theorem k_X1_forget {l : Launch} {w : nz_O} {q : Nat → Nat} (x : nz_S) (o : Unit × nz_S) (hf : f_X1_forget x = some o) : nz_MV l yX1_forget (nz_T yX1_forget cX1_forget 1 (none)) (nz_R 0 0) w q nz_tK [.ref (q 20)] x o := by
  refine nz_enterV (by decide) rfl (Nat.le_of_ble_eq_true rfl) rfl rfl ?_
  intro κ E hw hlq hR
  subst hw; subst hlq
  unfold f_X1_forget at hf
  refine nz_weak (lv' := [(0, .ref (q 20))]) ⟨rfl, trivial⟩ ?_
  refine nz_aload_n (pc := 0) (i := 0) E dX1_forget_0 rfl rfl ?_
  refine nz_iconst (pc := 1) (v := 0) E dX1_forget_1 (by decide) ?_
  refine nz_putI (pc := 2) (c := 20) (kf := 1) E rfl rfl (nz_upT nz_uX1) (by decide) (List.mem_cons_of_mem _ nz_w201) rfl tyX1 tyX1_ok nmX1 rfl (tyX1_ok 1 (by decide)) rfl dX1_forget_2 ?_
  refine nz_aload_n (pc := 5) (i := 0) E dX1_forget_5 rfl rfl ?_
  refine nz_iconst (pc := 6) (v := 0) E dX1_forget_6 (by decide) ?_
  refine nz_putI (pc := 7) (c := 20) (kf := 2) E rfl rfl (nz_upT nz_uX1) (by decide) (List.mem_cons_of_mem _ nz_w202) rfl tyX1 tyX1_ok nmX1 rfl (tyX1_ok 2 (by decide)) rfl dX1_forget_7 ?_
  exact nz_vret (pc := 10) E hR hf dX1_forget_10
def f_X4_forget_2 : Nat → Int32 → nz_S → (Int32 → nz_S → Option (Unit × nz_S)) → Option (Unit × nz_S)
  | 0, _, _, _ => none
  | fu + 1, w1, x, K =>
  if (2 : Int32) ≤ w1 then
    K w1 x
  else
    nz_chk (nz_in w1 2) <|
    let x3 : nz_S := nz_put x 32 (w1).toNatClampNeg (0 : Int32)
    let v4 : Int32 := w1 + 1
    f_X4_forget_2 fu v4 x3 K
def f_X4_forget (x : nz_S) : Option (Unit × nz_S) :=
  f_X4_forget_2 nz_F (0 : Int32) x fun u6 x5 =>
    some ((), x5)
theorem ds_X4_forget : nz_dsc yX4_forget 0 := by unfold nz_dsc; decide +kernel
set_option maxHeartbeats 4000000 in
set_option maxRecDepth 20000 in
theorem w_X4_forget_2 {κ : nz_C} {q : Nat → Nat} {o : Unit × nz_S} (E : nz_Env κ q nz_tK 2 cX4_forget RX4 (nz_T yX4_forget cX4_forget 2 (none)) (nz_R 0 0)) (hR : nz_RV κ q nz_tK o) : ∀ (fu : Nat) (w1 : Int32) (x : nz_S) (K : Int32 → nz_S → Option (Unit × nz_S)), f_X4_forget_2 fu w1 x K = some o → (∀ (w1 : Int32) (x : nz_S), K w1 x = some o → nz_St κ q nz_tK 2 20 [(0, .ref (q 26)), (1, .int w1)] [] x) → nz_St κ q nz_tK 2 2 [(0, .ref (q 26)), (1, .int w1)] [] x := by
  intro fu
  induction fu with
  | zero => intro w1 x K hf; rw [f_X4_forget_2] at hf; cases hf
  | succ fu ih =>
    intro w1 x K hf hK
    rw [f_X4_forget_2] at hf
    refine nz_iload_n (pc := 2) (i := 1) E dX4_forget_2 rfl rfl ?_
    refine nz_iconst (pc := 3) (v := 2) E dX4_forget_3 (by decide) ?_
    refine nz_icmp_ge (pc := 4) (tgt := 20) E dX4_forget_4 (by decide) (fun h1 => ?_) (fun h1 => ?_)
    · have hf := nz_ite_t hf h1
      refine nz_weak (lv' := [(0, .ref (q 26)), (1, .int _)]) ⟨rfl, rfl, trivial⟩ ?_
      exact hK _ _ hf
    · have hf := nz_ite_f hf h1
      refine nz_aload_n (pc := 7) (i := 0) E dX4_forget_7 rfl rfl ?_
      refine nz_getR (pc := 8) (c := 26) (kf := 1) E rfl rfl (nz_upT nz_uX4) (by decide) (List.mem_cons_of_mem _ nz_w220) rfl rfl dX4_forget_8 ?_
      refine nz_iload_n (pc := 11) (i := 1) E dX4_forget_11 rfl rfl ?_
      refine nz_iconst (pc := 12) (v := 0) E dX4_forget_12 (by decide) ?_
      obtain ⟨h2, hf⟩ := nz_chk_t hf
      refine nz_zast (pc := 13) (c := 32) E rfl h2 rfl dX4_forget_13 ?_
      refine nz_iinc (pc := 14) (i := 1) (w := 1) E dX4_forget_14 rfl (by decide) (by decide) rfl ?_
      refine nz_goto (pc := 17) (tgt := 2) E dX4_forget_17 (by decide) ?_
      refine nz_weak (lv' := [(0, .ref (q 26)), (1, .int _)]) ⟨rfl, rfl, trivial⟩ ?_
      exact ih _ _ _ hf hK
set_option maxHeartbeats 4000000 in
set_option maxRecDepth 20000 in
theorem k_X4_forget {l : Launch} {w : nz_O} {q : Nat → Nat} (x : nz_S) (o : Unit × nz_S) (hf : f_X4_forget x = some o) : nz_MV l yX4_forget (nz_T yX4_forget cX4_forget 2 (none)) (nz_R 0 0) w q nz_tK [.ref (q 26)] x o := by
  refine nz_enterV (by decide) rfl (Nat.le_of_ble_eq_true rfl) rfl rfl ?_
  intro κ E hw hlq hR
  subst hw; subst hlq
  unfold f_X4_forget at hf
  refine nz_weak (lv' := [(0, .ref (q 26))]) ⟨rfl, trivial⟩ ?_
  refine nz_iconst (pc := 0) (v := 0) E dX4_forget_0 (by decide) ?_
  refine nz_istore_n (pc := 1) (i := 1) E dX4_forget_1 rfl (by decide) rfl ?_
  refine nz_weak (lv' := [(0, .ref (q 26)), (1, .int _)]) ⟨rfl, rfl, trivial⟩ ?_
  refine w_X4_forget_2 E hR _ _ _ _ hf (fun u6 x5 hf => ?_)
  exact nz_vret (pc := 20) E hR hf dX4_forget_20
def f_X7_graph (x : nz_S) : Option (Int32 × nz_S) :=
  nz_bnd (f_X6_readInto 7  x) fun r1 x2 =>
  if r1 = (-9 : Int32) then
    nz_bnd (f_X0_copyFrom 3 7  x2) fun r5 x6 =>
    nz_bnd (f_X1_forget   x6) fun r8 x9 =>
    nz_bnd (f_X4_forget   x9) fun r11 x12 =>
    some ((x12.1 3 3), x12)
  else
    some ((-3 : Int32), x2)
theorem ds_X7_graph : nz_dsc yX7_graph 0 := by unfold nz_dsc; decide +kernel
set_option maxHeartbeats 4000000 in
set_option maxRecDepth 20000 in
theorem k_X7_graph {l : Launch} {w : nz_O} {q : Nat → Nat} (x : nz_S) (o : Int32 × nz_S) (hf : f_X7_graph x = some o) : nz_MI l yX7_graph (nz_T yX7_graph cX7_graph 1 (some .int)) (nz_R 4 89) w q nz_tK [.ref (q 0)] x o := by
  refine nz_enterI (by decide) rfl (Nat.le_of_ble_eq_true rfl) rfl rfl ?_
  intro κ E hw hlq hR
  subst hw; subst hlq
  unfold f_X7_graph at hf
  refine nz_weak (lv' := [(0, .ref (q 0))]) ⟨rfl, trivial⟩ ?_
  refine nz_aload_n (pc := 0) (i := 0) E dX7_graph_0 rfl rfl ?_
  refine nz_getR (pc := 1) (c := 0) (kf := 0) E rfl rfl (nz_upT nz_uX7) (by decide) (List.mem_cons_of_mem _ nz_w248) rfl rfl dX7_graph_1 ?_
  refine nz_aload_n (pc := 4) (i := 0) E dX7_graph_4 rfl rfl ?_
  refine nz_getR (pc := 5) (c := 0) (kf := 2) E rfl rfl (nz_upT nz_uX7) (by decide) (List.mem_cons_of_mem _ nz_w250) rfl rfl dX7_graph_5 ?_
  obtain ⟨r1, x2, h3, hf⟩ := nz_bnd_t hf
  refine nz_callVI (pc := 8) (c0 := 1) (As := [.ref (q 7)]) E rfl rfl (k_X6_readInto 7 nz_g7 _ _ h3) (nz_cwV E nz_w293 nz_w294 nz_w295 nz_w59 nz_w296 ds_X6_readInto ⟨Nat.le_of_ble_eq_true rfl, Nat.le_of_ble_eq_true rfl⟩ rfl rfl) rfl rfl (Nat.le_of_ble_eq_true rfl) dX7_graph_8 ?_
  refine nz_bipush (pc := 11) (v := -9) E dX7_graph_11 (by decide) ?_
  refine nz_icmp_eq (pc := 13) (tgt := 19) E dX7_graph_13 (by decide) (fun h4 => ?_) (fun h4 => ?_)
  · have hf := nz_ite_t hf h4
    refine nz_aload_n (pc := 19) (i := 0) E dX7_graph_19 rfl rfl ?_
    refine nz_getR (pc := 20) (c := 0) (kf := 1) E rfl rfl (nz_upT nz_uX7) (by decide) (List.mem_cons_of_mem _ nz_w249) rfl rfl dX7_graph_20 ?_
    refine nz_aload_n (pc := 23) (i := 0) E dX7_graph_23 rfl rfl ?_
    refine nz_getR (pc := 24) (c := 0) (kf := 2) E rfl rfl (nz_upT nz_uX7) (by decide) (List.mem_cons_of_mem _ nz_w250) rfl rfl dX7_graph_24 ?_
    obtain ⟨r5, x6, h7, hf⟩ := nz_bnd_t hf
    refine nz_callVV (pc := 27) (c0 := 3) (As := [.ref (q 7)]) E rfl rfl (k_X0_copyFrom 3 7 nz_g3 nz_g7 _ _ h7) (nz_cwV E nz_w316 nz_w317 nz_w318 nz_w60 nz_w319 ds_X0_copyFrom ⟨Nat.le_of_ble_eq_true rfl, Nat.le_of_ble_eq_true rfl⟩ rfl rfl) rfl rfl (Nat.le_of_ble_eq_true rfl) dX7_graph_27 ?_
    refine nz_aload_n (pc := 30) (i := 0) E dX7_graph_30 rfl rfl ?_
    refine nz_getR (pc := 31) (c := 0) (kf := 4) E rfl rfl (nz_upT nz_uX7) (by decide) (List.mem_cons_of_mem _ nz_w252) rfl rfl dX7_graph_31 ?_
    obtain ⟨r8, x9, h10, hf⟩ := nz_bnd_t hf
    refine nz_callVV (pc := 34) (c0 := 20) (As := []) E rfl rfl (k_X1_forget   _ _ h10) (nz_cwV E nz_w323 nz_w324 nz_w325 nz_w62 nz_w326 ds_X1_forget ⟨Nat.le_of_ble_eq_true rfl, Nat.le_of_ble_eq_true rfl⟩ rfl rfl) rfl rfl (Nat.le_of_ble_eq_true rfl) dX7_graph_34 ?_
    refine nz_aload_n (pc := 37) (i := 0) E dX7_graph_37 rfl rfl ?_
    refine nz_getR (pc := 38) (c := 0) (kf := 5) E rfl rfl (nz_upT nz_uX7) (by decide) (List.mem_cons_of_mem _ nz_w253) rfl rfl dX7_graph_38 ?_
    obtain ⟨r11, x12, h13, hf⟩ := nz_bnd_t hf
    refine nz_callVV (pc := 41) (c0 := 26) (As := []) E rfl rfl (k_X4_forget   _ _ h13) (nz_cwV E nz_w327 nz_w328 nz_w329 nz_w65 nz_w330 ds_X4_forget ⟨Nat.le_of_ble_eq_true rfl, Nat.le_of_ble_eq_true rfl⟩ rfl rfl) rfl rfl (Nat.le_of_ble_eq_true rfl) dX7_graph_41 ?_
    refine nz_aload_n (pc := 44) (i := 0) E dX7_graph_44 rfl rfl ?_
    refine nz_getR (pc := 45) (c := 0) (kf := 1) E rfl rfl (nz_upT nz_uX7) (by decide) (List.mem_cons_of_mem _ nz_w249) rfl rfl dX7_graph_45 ?_
    refine nz_getNI (pc := 48) (c := 3) (kf := 3) E rfl rfl (nz_upT nz_uX0) (by decide) nz_n113 rfl rfl dX7_graph_48 ?_
    exact nz_iret (pc := 51) E hR rfl hf dX7_graph_51
  · have hf := nz_ite_f hf h4
    refine nz_bipush (pc := 16) (v := -3) E dX7_graph_16 (by decide) ?_
    exact nz_iret (pc := 18) E hR rfl hf dX7_graph_18
def f_X0_countArcs_4 (g : Nat) : Nat → Int32 → Int32 → nz_S → (Int32 → Int32 → nz_S → Option (Int32 × nz_S)) → Option (Int32 × nz_S)
  | 0, _, _, _, _ => none
  | fu + 1, w1, w2, x, K =>
  if (x.1 g 3) ≤ w2 then
    K w1 w2 x
  else
    nz_chk (nz_in w2 12) <|
    let v3 : Int32 := (w1 + (x.1 (g + 2) (w2).toNatClampNeg))
    let v4 : Int32 := w2 + 1
    f_X0_countArcs_4 g fu v3 v4 x K
def f_X0_countArcs (g : Nat) (x : nz_S) : Option (Int32 × nz_S) :=
  f_X0_countArcs_4 g nz_F (0 : Int32) (0 : Int32) x fun u6 u7 x5 =>
    some (u6, x5)
theorem ds_X0_countArcs : nz_dsc yX0_countArcs 0 := by unfold nz_dsc; decide +kernel
set_option maxHeartbeats 4000000 in
set_option maxRecDepth 20000 in
theorem w_X0_countArcs_4 {κ : nz_C} {q : Nat → Nat} {o : Int32 × nz_S} (g : Nat) (hg : nz_isG g) (E : nz_Env κ q nz_tK 3 cX0_countArcs RX0 (nz_T yX0_countArcs cX0_countArcs 3 (some .int)) (nz_R 0 0)) (hR : nz_RI κ q nz_tK .int o) : ∀ (fu : Nat) (w1 : Int32) (w2 : Int32) (x : nz_S) (K : Int32 → Int32 → nz_S → Option (Int32 × nz_S)), f_X0_countArcs_4 g fu w1 w2 x K = some o → (∀ (w1 : Int32) (w2 : Int32) (x : nz_S), K w1 w2 x = some o → nz_St κ q nz_tK 3 27 [(0, .ref (q g)), (1, .int w1), (2, .int w2)] [] x) → nz_St κ q nz_tK 3 4 [(0, .ref (q g)), (1, .int w1), (2, .int w2)] [] x := by
  intro fu
  induction fu with
  | zero => intro w1 w2 x K hf; rw [f_X0_countArcs_4] at hf; cases hf
  | succ fu ih =>
    intro w1 w2 x K hf hK
    rw [f_X0_countArcs_4] at hf
    refine nz_iload_n (pc := 4) (i := 2) E dX0_countArcs_4 rfl rfl ?_
    refine nz_aload_n (pc := 5) (i := 0) E dX0_countArcs_5 rfl rfl ?_
    refine nz_getI (pc := 6) (c := g) (kf := 3) E hg.1 rfl (nz_upT nz_uX0) (by decide) (List.mem_cons_of_mem _ nz_w109) rfl rfl dX0_countArcs_6 ?_
    refine nz_icmp_ge (pc := 9) (tgt := 27) E dX0_countArcs_9 (by decide) (fun h1 => ?_) (fun h1 => ?_)
    · have hf := nz_ite_t hf h1
      refine nz_weak (lv' := [(0, .ref (q g)), (1, .int _), (2, .int _)]) ⟨rfl, rfl, rfl, trivial⟩ ?_
      exact hK _ _ _ hf
    · have hf := nz_ite_f hf h1
      refine nz_iload_n (pc := 12) (i := 1) E dX0_countArcs_12 rfl rfl ?_
      refine nz_aload_n (pc := 13) (i := 0) E dX0_countArcs_13 rfl rfl ?_
      refine nz_getR (pc := 14) (c := g) (kf := 1) E hg.1 rfl (nz_upT nz_uX0) (by decide) (List.mem_cons_of_mem _ nz_w103) rfl rfl dX0_countArcs_14 ?_
      refine nz_iload_n (pc := 17) (i := 2) E dX0_countArcs_17 rfl rfl ?_
      obtain ⟨h2, hf⟩ := nz_chk_t hf
      refine nz_iald (pc := 18) (c := (g + 2)) E hg.2.2.1 h2 dX0_countArcs_18 ?_
      refine nz_iadd (pc := 19) E dX0_countArcs_19 ?_
      refine nz_istore_n (pc := 20) (i := 1) E dX0_countArcs_20 rfl (by decide) rfl ?_
      refine nz_iinc (pc := 21) (i := 2) (w := 1) E dX0_countArcs_21 rfl (by decide) (by decide) rfl ?_
      refine nz_goto (pc := 24) (tgt := 4) E dX0_countArcs_24 (by decide) ?_
      refine nz_weak (lv' := [(0, .ref (q g)), (1, .int _), (2, .int _)]) ⟨rfl, rfl, rfl, trivial⟩ ?_
      exact ih _ _ _ _ hf hK
set_option maxHeartbeats 4000000 in
set_option maxRecDepth 20000 in
theorem k_X0_countArcs {l : Launch} {w : nz_O} {q : Nat → Nat} (g : Nat) (hg : nz_isG g) (x : nz_S) (o : Int32 × nz_S) (hf : f_X0_countArcs g x = some o) : nz_MI l yX0_countArcs (nz_T yX0_countArcs cX0_countArcs 3 (some .int)) (nz_R 0 0) w q nz_tK [.ref (q g)] x o := by
  refine nz_enterI (by decide) rfl (Nat.le_of_ble_eq_true rfl) rfl rfl ?_
  intro κ E hw hlq hR
  subst hw; subst hlq
  unfold f_X0_countArcs at hf
  refine nz_weak (lv' := [(0, .ref (q g))]) ⟨rfl, trivial⟩ ?_
  refine nz_iconst (pc := 0) (v := 0) E dX0_countArcs_0 (by decide) ?_
  refine nz_istore_n (pc := 1) (i := 1) E dX0_countArcs_1 rfl (by decide) rfl ?_
  refine nz_iconst (pc := 2) (v := 0) E dX0_countArcs_2 (by decide) ?_
  refine nz_istore_n (pc := 3) (i := 2) E dX0_countArcs_3 rfl (by decide) rfl ?_
  refine nz_weak (lv' := [(0, .ref (q g)), (1, .int _), (2, .int _)]) ⟨rfl, rfl, rfl, trivial⟩ ?_
  refine w_X0_countArcs_4 g hg E hR _ _ _ _ _ hf (fun u6 u7 x5 hf => ?_)
  refine nz_iload_n (pc := 27) (i := 1) E dX0_countArcs_27 rfl rfl ?_
  exact nz_iret (pc := 28) E hR rfl hf dX0_countArcs_28
def f_J7_fill_53178_5 (c : Nat) (n : Nat) (c1 : Int32) (c3 : Int32) : Nat → Int32 → nz_S → (Int32 → nz_S → Option (Unit × nz_S)) → Option (Unit × nz_S)
  | 0, _, _, _ => none
  | fu + 1, w2, x, K =>
  if c3 ≤ w2 then
    K w2 x
  else
    nz_chk (nz_in w2 n) <|
    let x4 : nz_S := nz_put x c (w2).toNatClampNeg c1
    let v5 : Int32 := w2 + 1
    f_J7_fill_53178_5 c n c1 c3 fu v5 x4 K
def f_J7_fill_53178 (c : Nat) (n : Nat) (a0 : Int32) (x : nz_S) : Option (Unit × nz_S) :=
  let v1 : Int32 := (nI n)
  f_J7_fill_53178_5 c n a0 v1 nz_F (0 : Int32) x fun u7 x6 =>
    some ((), x6)
theorem ds_J7_fill_53178 : nz_dsc yJ7_fill_53178 2 := by unfold nz_dsc; decide +kernel
set_option maxHeartbeats 4000000 in
set_option maxRecDepth 20000 in
theorem w_J7_fill_53178_5 {κ : nz_C} {q : Nat → Nat} {o : Unit × nz_S} (c : Nat) (n : Nat) (hc : nz_isA c n) (c1 : Int32) (c3 : Int32) (E : nz_Env κ q nz_tK 4 cJ7_fill_53178 RJ7 (nz_T yJ7_fill_53178 cJ7_fill_53178 4 (none)) (nz_R 0 0)) (hR : nz_RV κ q nz_tK o) : ∀ (fu : Nat) (w2 : Int32) (x : nz_S) (K : Int32 → nz_S → Option (Unit × nz_S)), f_J7_fill_53178_5 c n c1 c3 fu w2 x K = some o → (∀ (w2 : Int32) (x : nz_S), K w2 x = some o → nz_St κ q nz_tK 4 20 [(0, .ref (q c)), (1, .int c1), (2, .int w2), (3, .int c3)] [] x) → nz_St κ q nz_tK 4 5 [(0, .ref (q c)), (1, .int c1), (2, .int w2), (3, .int c3)] [] x := by
  intro fu
  induction fu with
  | zero => intro w2 x K hf; rw [f_J7_fill_53178_5] at hf; cases hf
  | succ fu ih =>
    intro w2 x K hf hK
    rw [f_J7_fill_53178_5] at hf
    refine nz_iload_n (pc := 5) (i := 2) E dJ7_fill_53178_5 rfl rfl ?_
    refine nz_iload_n (pc := 6) (i := 3) E dJ7_fill_53178_6 rfl rfl ?_
    refine nz_icmp_ge (pc := 7) (tgt := 20) E dJ7_fill_53178_7 (by decide) (fun h2 => ?_) (fun h2 => ?_)
    · have hf := nz_ite_t hf h2
      refine nz_weak (lv' := [(0, .ref (q c)), (1, .int _), (2, .int _), (3, .int _)]) ⟨rfl, rfl, rfl, rfl, trivial⟩ ?_
      exact hK _ _ hf
    · have hf := nz_ite_f hf h2
      refine nz_aload_n (pc := 10) (i := 0) E dJ7_fill_53178_10 rfl rfl ?_
      refine nz_iload_n (pc := 11) (i := 2) E dJ7_fill_53178_11 rfl rfl ?_
      refine nz_iload_n (pc := 12) (i := 1) E dJ7_fill_53178_12 rfl rfl ?_
      obtain ⟨h3, hf⟩ := nz_chk_t hf
      refine nz_iast (pc := 13) (c := c) E hc h3 dJ7_fill_53178_13 ?_
      refine nz_iinc (pc := 14) (i := 2) (w := 1) E dJ7_fill_53178_14 rfl (by decide) (by decide) rfl ?_
      refine nz_goto (pc := 17) (tgt := 5) E dJ7_fill_53178_17 (by decide) ?_
      refine nz_weak (lv' := [(0, .ref (q c)), (1, .int _), (2, .int _), (3, .int _)]) ⟨rfl, rfl, rfl, rfl, trivial⟩ ?_
      exact ih _ _ _ hf hK
set_option maxHeartbeats 4000000 in
set_option maxRecDepth 20000 in
theorem k_J7_fill_53178 {l : Launch} {w : nz_O} {q : Nat → Nat} (c : Nat) (n : Nat) (hc : nz_isA c n) (a0 : Int32) (x : nz_S) (o : Unit × nz_S) (hf : f_J7_fill_53178 c n a0 x = some o) : nz_MV l yJ7_fill_53178 (nz_T yJ7_fill_53178 cJ7_fill_53178 4 (none)) (nz_R 0 0) w q nz_tK [.ref (q c), .int a0] x o := by
  refine nz_enterV (by decide) rfl (Nat.le_of_ble_eq_true rfl) rfl rfl ?_
  intro κ E hw hlq hR
  subst hw; subst hlq
  unfold f_J7_fill_53178 at hf
  refine nz_weak (lv' := [(0, .ref (q c)), (1, .int a0)]) ⟨rfl, rfl, trivial⟩ ?_
  refine nz_iconst (pc := 0) (v := 0) E dJ7_fill_53178_0 (by decide) ?_
  refine nz_istore_n (pc := 1) (i := 2) E dJ7_fill_53178_1 rfl (by decide) rfl ?_
  refine nz_aload_n (pc := 2) (i := 0) E dJ7_fill_53178_2 rfl rfl ?_
  refine nz_alen (pc := 3) (c := c) E hc dJ7_fill_53178_3 ?_
  refine nz_istore_n (pc := 4) (i := 3) E dJ7_fill_53178_4 rfl (by decide) rfl ?_
  refine nz_weak (lv' := [(0, .ref (q c)), (1, .int _), (2, .int _), (3, .int _)]) ⟨rfl, rfl, rfl, rfl, trivial⟩ ?_
  refine w_J7_fill_53178_5 c n hc _ _ E hR _ _ _ _ hf (fun u7 x6 hf => ?_)
  exact nz_vret (pc := 20) E hR hf dJ7_fill_53178_20
def f_X5_clear (x : nz_S) : Option (Unit × nz_S) :=
  nz_bnd (f_J7_fill_53178 12 12 (-9 : Int32) x) fun r1 x2 =>
  nz_bnd (f_J7_fill_53178 14 12 (0 : Int32) x2) fun r4 x5 =>
  nz_bnd (f_J7_fill_53178 15 12 (0 : Int32) x5) fun r7 x8 =>
  nz_bnd (f_J7_fill_53178 16 12 (0 : Int32) x8) fun r10 x11 =>
  nz_bnd (f_J7_fill_53178 17 12 (0 : Int32) x11) fun r13 x14 =>
  nz_bnd (f_J7_fill_53178 18 12 (-9 : Int32) x14) fun r16 x17 =>
  nz_bnd (f_J7_fill_53178 19 12 (0 : Int32) x17) fun r19 x20 =>
  let x22 : nz_S := nz_put x20 11 8 (0 : Int32)
  let x23 : nz_S := nz_put x22 11 9 (0 : Int32)
  let x24 : nz_S := nz_put x23 11 10 (0 : Int32)
  some ((), x24)
theorem ds_X5_clear : nz_dsc yX5_clear 0 := by unfold nz_dsc; decide +kernel
set_option maxHeartbeats 4000000 in
set_option maxRecDepth 20000 in
theorem k_X5_clear {l : Launch} {w : nz_O} {q : Nat → Nat} (x : nz_S) (o : Unit × nz_S) (hf : f_X5_clear x = some o) : nz_MV l yX5_clear (nz_T yX5_clear cX5_clear 1 (none)) (nz_R 1 23) w q nz_tK [.ref (q 11)] x o := by
  refine nz_enterV (by decide) rfl (Nat.le_of_ble_eq_true rfl) rfl rfl ?_
  intro κ E hw hlq hR
  subst hw; subst hlq
  unfold f_X5_clear at hf
  refine nz_weak (lv' := [(0, .ref (q 11))]) ⟨rfl, trivial⟩ ?_
  refine nz_aload_n (pc := 0) (i := 0) E dX5_clear_0 rfl rfl ?_
  refine nz_getR (pc := 1) (c := 11) (kf := 0) E rfl rfl (nz_upT nz_uX5) (by decide) (List.mem_cons_of_mem _ nz_w129) rfl rfl dX5_clear_1 ?_
  refine nz_bipush (pc := 4) (v := -9) E dX5_clear_4 (by decide) ?_
  obtain ⟨r1, x2, h3, hf⟩ := nz_bnd_t hf
  refine nz_callSV (pc := 6) (As := [.ref (q 12), .int _]) E (k_J7_fill_53178 12 12 rfl _ _ _ h3) (nz_cwS E nz_w351 nz_w352 nz_w69 nz_w353 ds_J7_fill_53178 ⟨Nat.le_of_ble_eq_true rfl, Nat.le_of_ble_eq_true rfl⟩ rfl rfl) rfl rfl (Nat.le_of_ble_eq_true rfl) dX5_clear_6 ?_
  refine nz_aload_n (pc := 9) (i := 0) E dX5_clear_9 rfl rfl ?_
  refine nz_getR (pc := 10) (c := 11) (kf := 2) E rfl rfl (nz_upT nz_uX5) (by decide) (List.mem_cons_of_mem _ nz_w132) rfl rfl dX5_clear_10 ?_
  refine nz_iconst (pc := 13) (v := 0) E dX5_clear_13 (by decide) ?_
  obtain ⟨r4, x5, h6, hf⟩ := nz_bnd_t hf
  refine nz_callSV (pc := 14) (As := [.ref (q 14), .int _]) E (k_J7_fill_53178 14 12 rfl _ _ _ h6) (nz_cwS E nz_w351 nz_w352 nz_w69 nz_w353 ds_J7_fill_53178 ⟨Nat.le_of_ble_eq_true rfl, Nat.le_of_ble_eq_true rfl⟩ rfl rfl) rfl rfl (Nat.le_of_ble_eq_true rfl) dX5_clear_14 ?_
  refine nz_aload_n (pc := 17) (i := 0) E dX5_clear_17 rfl rfl ?_
  refine nz_getR (pc := 18) (c := 11) (kf := 3) E rfl rfl (nz_upT nz_uX5) (by decide) (List.mem_cons_of_mem _ nz_w134) rfl rfl dX5_clear_18 ?_
  refine nz_iconst (pc := 21) (v := 0) E dX5_clear_21 (by decide) ?_
  obtain ⟨r7, x8, h9, hf⟩ := nz_bnd_t hf
  refine nz_callSV (pc := 22) (As := [.ref (q 15), .int _]) E (k_J7_fill_53178 15 12 rfl _ _ _ h9) (nz_cwS E nz_w351 nz_w352 nz_w69 nz_w353 ds_J7_fill_53178 ⟨Nat.le_of_ble_eq_true rfl, Nat.le_of_ble_eq_true rfl⟩ rfl rfl) rfl rfl (Nat.le_of_ble_eq_true rfl) dX5_clear_22 ?_
  refine nz_aload_n (pc := 25) (i := 0) E dX5_clear_25 rfl rfl ?_
  refine nz_getR (pc := 26) (c := 11) (kf := 4) E rfl rfl (nz_upT nz_uX5) (by decide) (List.mem_cons_of_mem _ nz_w136) rfl rfl dX5_clear_26 ?_
  refine nz_iconst (pc := 29) (v := 0) E dX5_clear_29 (by decide) ?_
  obtain ⟨r10, x11, h12, hf⟩ := nz_bnd_t hf
  refine nz_callSV (pc := 30) (As := [.ref (q 16), .int _]) E (k_J7_fill_53178 16 12 rfl _ _ _ h12) (nz_cwS E nz_w351 nz_w352 nz_w69 nz_w353 ds_J7_fill_53178 ⟨Nat.le_of_ble_eq_true rfl, Nat.le_of_ble_eq_true rfl⟩ rfl rfl) rfl rfl (Nat.le_of_ble_eq_true rfl) dX5_clear_30 ?_
  refine nz_aload_n (pc := 33) (i := 0) E dX5_clear_33 rfl rfl ?_
  refine nz_getR (pc := 34) (c := 11) (kf := 5) E rfl rfl (nz_upT nz_uX5) (by decide) (List.mem_cons_of_mem _ nz_w137) rfl rfl dX5_clear_34 ?_
  refine nz_iconst (pc := 37) (v := 0) E dX5_clear_37 (by decide) ?_
  obtain ⟨r13, x14, h15, hf⟩ := nz_bnd_t hf
  refine nz_callSV (pc := 38) (As := [.ref (q 17), .int _]) E (k_J7_fill_53178 17 12 rfl _ _ _ h15) (nz_cwS E nz_w351 nz_w352 nz_w69 nz_w353 ds_J7_fill_53178 ⟨Nat.le_of_ble_eq_true rfl, Nat.le_of_ble_eq_true rfl⟩ rfl rfl) rfl rfl (Nat.le_of_ble_eq_true rfl) dX5_clear_38 ?_
  refine nz_aload_n (pc := 41) (i := 0) E dX5_clear_41 rfl rfl ?_
  refine nz_getR (pc := 42) (c := 11) (kf := 6) E rfl rfl (nz_upT nz_uX5) (by decide) (List.mem_cons_of_mem _ nz_w139) rfl rfl dX5_clear_42 ?_
  refine nz_bipush (pc := 45) (v := -9) E dX5_clear_45 (by decide) ?_
  obtain ⟨r16, x17, h18, hf⟩ := nz_bnd_t hf
  refine nz_callSV (pc := 47) (As := [.ref (q 18), .int _]) E (k_J7_fill_53178 18 12 rfl _ _ _ h18) (nz_cwS E nz_w351 nz_w352 nz_w69 nz_w353 ds_J7_fill_53178 ⟨Nat.le_of_ble_eq_true rfl, Nat.le_of_ble_eq_true rfl⟩ rfl rfl) rfl rfl (Nat.le_of_ble_eq_true rfl) dX5_clear_47 ?_
  refine nz_aload_n (pc := 50) (i := 0) E dX5_clear_50 rfl rfl ?_
  refine nz_getR (pc := 51) (c := 11) (kf := 7) E rfl rfl (nz_upT nz_uX5) (by decide) (List.mem_cons_of_mem _ nz_w141) rfl rfl dX5_clear_51 ?_
  refine nz_iconst (pc := 54) (v := 0) E dX5_clear_54 (by decide) ?_
  obtain ⟨r19, x20, h21, hf⟩ := nz_bnd_t hf
  refine nz_callSV (pc := 55) (As := [.ref (q 19), .int _]) E (k_J7_fill_53178 19 12 rfl _ _ _ h21) (nz_cwS E nz_w351 nz_w352 nz_w69 nz_w353 ds_J7_fill_53178 ⟨Nat.le_of_ble_eq_true rfl, Nat.le_of_ble_eq_true rfl⟩ rfl rfl) rfl rfl (Nat.le_of_ble_eq_true rfl) dX5_clear_55 ?_
  refine nz_aload_n (pc := 58) (i := 0) E dX5_clear_58 rfl rfl ?_
  refine nz_iconst (pc := 59) (v := 0) E dX5_clear_59 (by decide) ?_
  refine nz_putI (pc := 60) (c := 11) (kf := 8) E rfl rfl (nz_upT nz_uX5) (by decide) (List.mem_cons_of_mem _ nz_w143) rfl tyX5 tyX5_ok nmX5 rfl (tyX5_ok 8 (by decide)) rfl dX5_clear_60 ?_
  refine nz_aload_n (pc := 63) (i := 0) E dX5_clear_63 rfl rfl ?_
  refine nz_iconst (pc := 64) (v := 0) E dX5_clear_64 (by decide) ?_
  refine nz_putI (pc := 65) (c := 11) (kf := 9) E rfl rfl (nz_upT nz_uX5) (by decide) (List.mem_cons_of_mem _ nz_w145) rfl tyX5 tyX5_ok nmX5 rfl (tyX5_ok 9 (by decide)) rfl dX5_clear_65 ?_
  refine nz_aload_n (pc := 68) (i := 0) E dX5_clear_68 rfl rfl ?_
  refine nz_iconst (pc := 69) (v := 0) E dX5_clear_69 (by decide) ?_
  refine nz_putI (pc := 70) (c := 11) (kf := 10) E rfl rfl (nz_upT nz_uX5) (by decide) (List.mem_cons_of_mem _ nz_w147) rfl tyX5 tyX5_ok nmX5 rfl (tyX5_ok 10 (by decide)) rfl dX5_clear_70 ?_
  exact nz_vret (pc := 73) E hR hf dX5_clear_73
def f_X0_target (g : Nat) (a0 : Int32) (a1 : Int32) (x : nz_S) : Option (Int32 × nz_S) :=
  let v1 : Int32 := ((a0 * (3 : Int32)) + a1)
  nz_chk (nz_in v1 36) <|
  some ((x.1 (g + 3) (v1).toNatClampNeg), x)
theorem ds_X0_target : nz_dsc yX0_target 2 := by unfold nz_dsc; decide +kernel
set_option maxHeartbeats 4000000 in
set_option maxRecDepth 20000 in
theorem k_X0_target {l : Launch} {w : nz_O} {q : Nat → Nat} (g : Nat) (hg : nz_isG g) (a0 : Int32) (a1 : Int32) (x : nz_S) (o : Int32 × nz_S) (hf : f_X0_target g a0 a1 x = some o) : nz_MI l yX0_target (nz_T yX0_target cX0_target 3 (some .int)) (nz_R 0 0) w q nz_tK [.ref (q g), .int a0, .int a1] x o := by
  refine nz_enterI (by decide) rfl (Nat.le_of_ble_eq_true rfl) rfl rfl ?_
  intro κ E hw hlq hR
  subst hw; subst hlq
  unfold f_X0_target at hf
  refine nz_weak (lv' := [(0, .ref (q g)), (1, .int a0), (2, .int a1)]) ⟨rfl, rfl, rfl, trivial⟩ ?_
  refine nz_aload_n (pc := 0) (i := 0) E dX0_target_0 rfl rfl ?_
  refine nz_getR (pc := 1) (c := g) (kf := 2) E hg.1 rfl (nz_upT nz_uX0) (by decide) (List.mem_cons_of_mem _ nz_w107) rfl rfl dX0_target_1 ?_
  refine nz_iload_n (pc := 4) (i := 1) E dX0_target_4 rfl rfl ?_
  refine nz_iconst (pc := 5) (v := 3) E dX0_target_5 (by decide) ?_
  refine nz_imul (pc := 6) E dX0_target_6 ?_
  refine nz_iload_n (pc := 7) (i := 2) E dX0_target_7 rfl rfl ?_
  refine nz_iadd (pc := 8) E dX0_target_8 ?_
  obtain ⟨h2, hf⟩ := nz_chk_t hf
  refine nz_iald (pc := 9) (c := (g + 3)) E hg.2.2.2 h2 dX0_target_9 ?_
  exact nz_iret (pc := 10) E hR rfl hf dX0_target_10
def f_X5_hasOrder (a0 : Int32) (x : nz_S) : Option (Int32 × nz_S) :=
  nz_chk (nz_in a0 12) <|
  if (x.1 12 (a0).toNatClampNeg) = (-9 : Int32) then
    some ((0 : Int32), x)
  else
    some ((1 : Int32), x)
theorem ds_X5_hasOrder : nz_dsc yX5_hasOrder 1 := by unfold nz_dsc; decide +kernel
set_option maxHeartbeats 4000000 in
set_option maxRecDepth 20000 in
theorem k_X5_hasOrder {l : Launch} {w : nz_O} {q : Nat → Nat} (a0 : Int32) (x : nz_S) (o : Int32 × nz_S) (hf : f_X5_hasOrder a0 x = some o) : nz_MI l yX5_hasOrder (nz_T yX5_hasOrder cX5_hasOrder 2 (some .boolean)) (nz_R 0 0) w q nz_tK [.ref (q 11), .int a0] x o := by
  refine nz_enterI (by decide) rfl (Nat.le_of_ble_eq_true rfl) rfl rfl ?_
  intro κ E hw hlq hR
  subst hw; subst hlq
  unfold f_X5_hasOrder at hf
  refine nz_weak (lv' := [(0, .ref (q 11)), (1, .int a0)]) ⟨rfl, rfl, trivial⟩ ?_
  refine nz_aload_n (pc := 0) (i := 0) E dX5_hasOrder_0 rfl rfl ?_
  refine nz_getR (pc := 1) (c := 11) (kf := 0) E rfl rfl (nz_upT nz_uX5) (by decide) (List.mem_cons_of_mem _ nz_w129) rfl rfl dX5_hasOrder_1 ?_
  refine nz_iload_n (pc := 4) (i := 1) E dX5_hasOrder_4 rfl rfl ?_
  obtain ⟨h1, hf⟩ := nz_chk_t hf
  refine nz_iald (pc := 5) (c := 12) E rfl h1 dX5_hasOrder_5 ?_
  refine nz_bipush (pc := 6) (v := -9) E dX5_hasOrder_6 (by decide) ?_
  refine nz_icmp_eq (pc := 8) (tgt := 15) E dX5_hasOrder_8 (by decide) (fun h2 => ?_) (fun h2 => ?_)
  · have hf := nz_ite_t hf h2
    refine nz_iconst (pc := 15) (v := 0) E dX5_hasOrder_15 (by decide) ?_
    exact nz_iret (pc := 16) E hR rfl hf dX5_hasOrder_16
  · have hf := nz_ite_f hf h2
    refine nz_iconst (pc := 11) (v := 1) E dX5_hasOrder_11 (by decide) ?_
    refine nz_goto (pc := 12) (tgt := 16) E dX5_hasOrder_12 (by decide) ?_
    exact nz_iret (pc := 16) E hR rfl hf dX5_hasOrder_16
def f_X5_visit_55 (rc : Int32 → Int32 → nz_S → Option (Int32 × nz_S)) (g : Nat) (c2 : Int32) (c3 : Int32) : Nat → Int32 → Int32 → nz_S → (Int32 → Int32 → nz_S → Option (Int32 × nz_S)) → Option (Int32 × nz_S)
  | 0, _, _, _, _ => none
  | fu + 1, w4, w5, x, K =>
  nz_chk (nz_in c2 12) <|
  if (x.1 (g + 2) (c2).toNatClampNeg) ≤ w5 then
    K w4 w5 x
  else
    nz_bnd (f_X0_target g c2 w5 x) fun r12 x13 =>
    nz_bnd (f_X5_hasOrder  r12 x13) fun r15 x16 =>
    if r15 = (0 : Int32) then
      nz_bnd (rc r12 (c3 + (1 : Int32)) x16) fun r20 x21 =>
      let v23 : Int32 := (w4 ||| r20)
      let v24 : Int32 := w5 + 1
      f_X5_visit_55 rc g c2 c3 fu v23 v24 x21 K
    else
      let v19 : Int32 := w5 + 1
      f_X5_visit_55 rc g c2 c3 fu w4 v19 x16 K
def f_X5_visit (rc : Int32 → Int32 → nz_S → Option (Int32 × nz_S)) (g : Nat) (a0 : Int32) (a1 : Int32) (x : nz_S) : Option (Int32 × nz_S) :=
  if (12 : Int32) ≤ a1 then
    some ((0 : Int32), x)
  else
    if (x.1 11 8) < (12 : Int32) then
      nz_chk (nz_in a0 12) <|
      let x4 : nz_S := nz_put x 12 (a0).toNatClampNeg (x.1 11 8)
      let v5 : Int32 := (x4.1 11 8)
      nz_chk (nz_in v5 12) <|
      let x7 : nz_S := nz_put x4 13 (v5).toNatClampNeg a0
      let x8 : nz_S := nz_put x7 11 8 ((x7.1 11 8) + (1 : Int32))
      let v9 : Int32 := ((1 : Int32) <<< (a0 &&& 31))
      f_X5_visit_55 rc g a0 a1 nz_F v9 (0 : Int32) x8 fun u26 u27 x25 =>
        nz_chk (nz_in a0 12) <|
        let x29 : nz_S := nz_put x25 14 (a0).toNatClampNeg u26
        some (u26, x29)
    else
      some ((0 : Int32), x)
theorem ds_X5_visit : nz_dsc yX5_visit 4 := by unfold nz_dsc; decide +kernel
set_option maxHeartbeats 4000000 in
set_option maxRecDepth 20000 in
theorem w_X5_visit_55 {κ : nz_C} {q : Nat → Nat} {o : Int32 × nz_S} {f1 l1 : Nat} {rc : Int32 → Int32 → nz_S → Option (Int32 × nz_S)} (g : Nat) (hg : nz_isG g) (c2 : Int32) (c3 : Int32) (E : nz_Env κ q nz_tK 7 cX5_visit RX5 (nz_T yX5_visit cX5_visit 7 (some .int)) (nz_R (f1 + 1) (l1 + 26))) (hR : nz_RI κ q nz_tK .int o) (hrec : ∀ (a0 : Int32) (a1 : Int32) (x : nz_S) (o : Int32 × nz_S), rc a0 a1 x = some o → nz_MI κ.1.2.1 yX5_visit (nz_T yX5_visit cX5_visit 7 (some .int)) (nz_R f1 l1) κ.2.2.2 q nz_tK [.ref (q 11), .ref (q g), .int a0, .int a1] x o) : ∀ (fu : Nat) (w4 : Int32) (w5 : Int32) (x : nz_S) (K : Int32 → Int32 → nz_S → Option (Int32 × nz_S)), f_X5_visit_55 rc g c2 c3 fu w4 w5 x K = some o → (∀ (w4 : Int32) (w5 : Int32) (x : nz_S), K w4 w5 x = some o → nz_St κ q nz_tK 7 105 [(0, .ref (q 11)), (1, .ref (q g)), (2, .int c2), (3, .int c3), (4, .int w4), (5, .int w5)] [] x) → nz_St κ q nz_tK 7 55 [(0, .ref (q 11)), (1, .ref (q g)), (2, .int c2), (3, .int c3), (4, .int w4), (5, .int w5)] [] x := by
  intro fu
  induction fu with
  | zero => intro w4 w5 x K hf; rw [f_X5_visit_55] at hf; cases hf
  | succ fu ih =>
    intro w4 w5 x K hf hK
    rw [f_X5_visit_55] at hf
    refine nz_iload (pc := 55) (i := 5) E dX5_visit_55 rfl ?_
    refine nz_aload_n (pc := 57) (i := 1) E dX5_visit_57 rfl rfl ?_
    refine nz_getNR (pc := 58) (c := g) (kf := 1) E hg.1 rfl (nz_upT nz_uX0) (by decide) nz_n105 rfl rfl dX5_visit_58 ?_
    refine nz_iload_n (pc := 61) (i := 2) E dX5_visit_61 rfl rfl ?_
    obtain ⟨h10, hf⟩ := nz_chk_t hf
    refine nz_iald (pc := 62) (c := (g + 2)) E hg.2.2.1 h10 dX5_visit_62 ?_
    refine nz_icmp_ge (pc := 63) (tgt := 105) E dX5_visit_63 (by decide) (fun h11 => ?_) (fun h11 => ?_)
    · have hf := nz_ite_t hf h11
      refine nz_weak (lv' := [(0, .ref (q 11)), (1, .ref (q g)), (2, .int _), (3, .int _), (4, .int _), (5, .int _)]) ⟨rfl, rfl, rfl, rfl, rfl, rfl, trivial⟩ ?_
      exact hK _ _ _ hf
    · have hf := nz_ite_f hf h11
      refine nz_aload_n (pc := 66) (i := 1) E dX5_visit_66 rfl rfl ?_
      refine nz_iload_n (pc := 67) (i := 2) E dX5_visit_67 rfl rfl ?_
      refine nz_iload (pc := 68) (i := 5) E dX5_visit_68 rfl ?_
      obtain ⟨r12, x13, h14, hf⟩ := nz_bnd_t hf
      refine nz_callVI (pc := 70) (c0 := g) (As := [.int _, .int _]) E hg.1 rfl (k_X0_target g hg _ _ _ _ h14) (nz_cwV E nz_w357 nz_w358 nz_w359 nz_w60 nz_w360 ds_X0_target ⟨by show 0 + 1 ≤ f1 + 1; omega, by show 8 + (3 + 11) + 0 ≤ l1 + 26; omega⟩ rfl rfl) rfl rfl (Nat.le_of_ble_eq_true rfl) dX5_visit_70 ?_
      refine nz_istore (pc := 73) (i := 6) E dX5_visit_73 (by decide) rfl ?_
      refine nz_aload_n (pc := 75) (i := 0) E dX5_visit_75 rfl rfl ?_
      refine nz_iload (pc := 76) (i := 6) E dX5_visit_76 rfl ?_
      obtain ⟨r15, x16, h17, hf⟩ := nz_bnd_t hf
      refine nz_callVI (pc := 78) (c0 := 11) (As := [.int _]) E rfl rfl (k_X5_hasOrder   _ _ _ h17) (nz_cwV E nz_w361 nz_w362 nz_w363 nz_w61 nz_w364 ds_X5_hasOrder ⟨by show 0 + 1 ≤ f1 + 1; omega, by show 8 + (2 + 11) + 0 ≤ l1 + 26; omega⟩ rfl rfl) rfl rfl (Nat.le_of_ble_eq_true rfl) dX5_visit_78 ?_
      refine nz_if_ne (pc := 81) (tgt := 99) E dX5_visit_81 (by decide) (fun h18 => ?_) (fun h18 => ?_)
      · have hf := nz_ite_f hf h18
        refine nz_iinc (pc := 99) (i := 5) (w := 1) E dX5_visit_99 rfl (by decide) (by decide) rfl ?_
        refine nz_goto (pc := 102) (tgt := 55) E dX5_visit_102 (by decide) ?_
        refine nz_weak (lv' := [(0, .ref (q 11)), (1, .ref (q g)), (2, .int _), (3, .int _), (4, .int _), (5, .int _)]) ⟨rfl, rfl, rfl, rfl, rfl, rfl, trivial⟩ ?_
        exact ih _ _ _ _ hf hK
      · have hf := nz_ite_t hf h18
        refine nz_iload (pc := 84) (i := 4) E dX5_visit_84 rfl ?_
        refine nz_aload_n (pc := 86) (i := 0) E dX5_visit_86 rfl rfl ?_
        refine nz_aload_n (pc := 87) (i := 1) E dX5_visit_87 rfl rfl ?_
        refine nz_iload (pc := 88) (i := 6) E dX5_visit_88 rfl ?_
        refine nz_iload_n (pc := 90) (i := 3) E dX5_visit_90 rfl rfl ?_
        refine nz_iconst (pc := 91) (v := 1) E dX5_visit_91 (by decide) ?_
        refine nz_iadd (pc := 92) E dX5_visit_92 ?_
        obtain ⟨r20, x21, h22, hf⟩ := nz_bnd_t hf
        refine nz_callSI (pc := 93) (As := [.ref (q 11), .ref (q g), .int _, .int _]) E (hrec _ _ _ _ h22) (nz_cwS E nz_w354 nz_w355 nz_w61 nz_w356 ds_X5_visit ⟨Nat.le_refl _, by show 8 + (7 + 11) + l1 ≤ l1 + 26; omega⟩ rfl rfl) rfl rfl (Nat.le_of_ble_eq_true rfl) dX5_visit_93 ?_
        refine nz_ior (pc := 96) E dX5_visit_96 ?_
        refine nz_istore (pc := 97) (i := 4) E dX5_visit_97 (by decide) rfl ?_
        refine nz_iinc (pc := 99) (i := 5) (w := 1) E dX5_visit_99 rfl (by decide) (by decide) rfl ?_
        refine nz_goto (pc := 102) (tgt := 55) E dX5_visit_102 (by decide) ?_
        refine nz_weak (lv' := [(0, .ref (q 11)), (1, .ref (q g)), (2, .int _), (3, .int _), (4, .int _), (5, .int _)]) ⟨rfl, rfl, rfl, rfl, rfl, rfl, trivial⟩ ?_
        exact ih _ _ _ _ hf hK
set_option maxHeartbeats 4000000 in
set_option maxRecDepth 20000 in
theorem k_X5_visit {l : Launch} {w : nz_O} {q : Nat → Nat} {f1 l1 : Nat} {rc : Int32 → Int32 → nz_S → Option (Int32 × nz_S)} (g : Nat) (hg : nz_isG g) (a0 : Int32) (a1 : Int32) (x : nz_S) (o : Int32 × nz_S) (hf : f_X5_visit rc g a0 a1 x = some o) (hrec : ∀ (a0 : Int32) (a1 : Int32) (x : nz_S) (o : Int32 × nz_S), rc a0 a1 x = some o → nz_MI l yX5_visit (nz_T yX5_visit cX5_visit 7 (some .int)) (nz_R f1 l1) w q nz_tK [.ref (q 11), .ref (q g), .int a0, .int a1] x o) : nz_MI l yX5_visit (nz_T yX5_visit cX5_visit 7 (some .int)) (nz_R (f1 + 1) (l1 + 26)) w q nz_tK [.ref (q 11), .ref (q g), .int a0, .int a1] x o := by
  refine nz_enterI (by decide) rfl (Nat.le_of_ble_eq_true rfl) rfl rfl ?_
  intro κ E hw hlq hR
  subst hw; subst hlq
  unfold f_X5_visit at hf
  refine nz_weak (lv' := [(0, .ref (q 11)), (1, .ref (q g)), (2, .int a0), (3, .int a1)]) ⟨rfl, rfl, rfl, rfl, trivial⟩ ?_
  refine nz_iload_n (pc := 0) (i := 3) E dX5_visit_0 rfl rfl ?_
  refine nz_bipush (pc := 1) (v := 12) E dX5_visit_1 (by decide) ?_
  refine nz_icmp_ge (pc := 3) (tgt := 15) E dX5_visit_3 (by decide) (fun h1 => ?_) (fun h1 => ?_)
  · have hf := nz_ite_t hf h1
    refine nz_iconst (pc := 15) (v := 0) E dX5_visit_15 (by decide) ?_
    exact nz_iret (pc := 16) E hR rfl hf dX5_visit_16
  · have hf := nz_ite_f hf h1
    refine nz_aload_n (pc := 6) (i := 0) E dX5_visit_6 rfl rfl ?_
    refine nz_getI (pc := 7) (c := 11) (kf := 8) E rfl rfl (nz_upT nz_uX5) (by decide) (List.mem_cons_of_mem _ nz_w143) rfl rfl dX5_visit_7 ?_
    refine nz_bipush (pc := 10) (v := 12) E dX5_visit_10 (by decide) ?_
    refine nz_icmp_lt (pc := 12) (tgt := 17) E dX5_visit_12 (by decide) (fun h2 => ?_) (fun h2 => ?_)
    · have hf := nz_ite_t hf h2
      refine nz_aload_n (pc := 17) (i := 0) E dX5_visit_17 rfl rfl ?_
      refine nz_getR (pc := 18) (c := 11) (kf := 0) E rfl rfl (nz_upT nz_uX5) (by decide) (List.mem_cons_of_mem _ nz_w129) rfl rfl dX5_visit_18 ?_
      refine nz_iload_n (pc := 21) (i := 2) E dX5_visit_21 rfl rfl ?_
      refine nz_aload_n (pc := 22) (i := 0) E dX5_visit_22 rfl rfl ?_
      refine nz_getI (pc := 23) (c := 11) (kf := 8) E rfl rfl (nz_upT nz_uX5) (by decide) (List.mem_cons_of_mem _ nz_w143) rfl rfl dX5_visit_23 ?_
      obtain ⟨h3, hf⟩ := nz_chk_t hf
      refine nz_iast (pc := 26) (c := 12) E rfl h3 dX5_visit_26 ?_
      refine nz_aload_n (pc := 27) (i := 0) E dX5_visit_27 rfl rfl ?_
      refine nz_getR (pc := 28) (c := 11) (kf := 1) E rfl rfl (nz_upT nz_uX5) (by decide) (List.mem_cons_of_mem _ nz_w131) rfl rfl dX5_visit_28 ?_
      refine nz_aload_n (pc := 31) (i := 0) E dX5_visit_31 rfl rfl ?_
      refine nz_getI (pc := 32) (c := 11) (kf := 8) E rfl rfl (nz_upT nz_uX5) (by decide) (List.mem_cons_of_mem _ nz_w143) rfl rfl dX5_visit_32 ?_
      refine nz_iload_n (pc := 35) (i := 2) E dX5_visit_35 rfl rfl ?_
      obtain ⟨h6, hf⟩ := nz_chk_t hf
      refine nz_iast (pc := 36) (c := 13) E rfl h6 dX5_visit_36 ?_
      refine nz_aload_n (pc := 37) (i := 0) E dX5_visit_37 rfl rfl ?_
      refine nz_dup (pc := 38) E dX5_visit_38 rfl ?_
      refine nz_getI (pc := 39) (c := 11) (kf := 8) E rfl rfl (nz_upT nz_uX5) (by decide) (List.mem_cons_of_mem _ nz_w143) rfl rfl dX5_visit_39 ?_
      refine nz_iconst (pc := 42) (v := 1) E dX5_visit_42 (by decide) ?_
      refine nz_iadd (pc := 43) E dX5_visit_43 ?_
      refine nz_putI (pc := 44) (c := 11) (kf := 8) E rfl rfl (nz_upT nz_uX5) (by decide) (List.mem_cons_of_mem _ nz_w143) rfl tyX5 tyX5_ok nmX5 rfl (tyX5_ok 8 (by decide)) rfl dX5_visit_44 ?_
      refine nz_iconst (pc := 47) (v := 1) E dX5_visit_47 (by decide) ?_
      refine nz_iload_n (pc := 48) (i := 2) E dX5_visit_48 rfl rfl ?_
      refine nz_ishl (pc := 49) E dX5_visit_49 ?_
      refine nz_istore (pc := 50) (i := 4) E dX5_visit_50 (by decide) rfl ?_
      refine nz_iconst (pc := 52) (v := 0) E dX5_visit_52 (by decide) ?_
      refine nz_istore (pc := 53) (i := 5) E dX5_visit_53 (by decide) rfl ?_
      refine nz_weak (lv' := [(0, .ref (q 11)), (1, .ref (q g)), (2, .int _), (3, .int _), (4, .int _), (5, .int _)]) ⟨rfl, rfl, rfl, rfl, rfl, rfl, trivial⟩ ?_
      refine w_X5_visit_55 g hg _ _ E hR hrec _ _ _ _ _ hf (fun u26 u27 x25 hf => ?_)
      refine nz_aload_n (pc := 105) (i := 0) E dX5_visit_105 rfl rfl ?_
      refine nz_getR (pc := 106) (c := 11) (kf := 2) E rfl rfl (nz_upT nz_uX5) (by decide) (List.mem_cons_of_mem _ nz_w132) rfl rfl dX5_visit_106 ?_
      refine nz_iload_n (pc := 109) (i := 2) E dX5_visit_109 rfl rfl ?_
      refine nz_iload (pc := 110) (i := 4) E dX5_visit_110 rfl ?_
      obtain ⟨h28, hf⟩ := nz_chk_t hf
      refine nz_iast (pc := 112) (c := 14) E rfl h28 dX5_visit_112 ?_
      refine nz_iload (pc := 113) (i := 4) E dX5_visit_113 rfl ?_
      exact nz_iret (pc := 115) E hR rfl hf dX5_visit_115
    · have hf := nz_ite_f hf h2
      refine nz_iconst (pc := 15) (v := 0) E dX5_visit_15 (by decide) ?_
      exact nz_iret (pc := 16) E hR rfl hf dX5_visit_16
def fv_X5_visit (g : Nat) : Nat → Int32 → Int32 → nz_S → Option (Int32 × nz_S)
  | 0 => fun _ _ _ => none
  | dd + 1 => f_X5_visit (fv_X5_visit g dd) g
theorem kv_X5_visit {l : Launch} {w : nz_O} {q : Nat → Nat} (g : Nat) (hg : nz_isG g) : ∀ (dd : Nat) (a0 : Int32) (a1 : Int32) (x : nz_S) (o : Int32 × nz_S), fv_X5_visit g dd a0 a1 x = some o → nz_MI l yX5_visit (nz_T yX5_visit cX5_visit 7 (some .int)) (nz_R dd (26 * dd)) w q nz_tK [.ref (q 11), .ref (q g), .int a0, .int a1] x o
  | 0, _, _, _, _, hf => by cases hf
  | dd + 1, a0, a1, x, o, hf => k_X5_visit g hg a0 a1 x o hf (kv_X5_visit g hg dd)
