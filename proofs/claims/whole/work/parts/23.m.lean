def f_X8_block (a0 : Int32) (a1 : Int32) (x : nz_S) : Option (Int32 × nz_S) :=
  let x1 : nz_S := nz_put x 0 0 (0 : Int32)
  nz_bnd (f_X8_noBlock  a0 x1) fun r2 x3 =>
  if r2 = (0 : Int32) then
    nz_bnd (f_X8_find 3  x3) fun r6 x7 =>
    if a1 = (0 : Int32) then
      let v10 : Int32 := ((1 : Int32) + a0)
      nz_chk (nz_in v10 61) <|
      some ((x7.1 3 (v10).toNatClampNeg), x7)
    else
    if a1 = (1 : Int32) then
      let v13 : Int32 := ((13 : Int32) + a0)
      nz_chk (nz_in v13 61) <|
      some ((x7.1 3 (v13).toNatClampNeg), x7)
    else
    if a1 = (2 : Int32) then
      nz_chk (nz_in a0 12) <|
      some ((x7.1 11 (a0).toNatClampNeg), x7)
    else
    if a1 = (3 : Int32) then
      nz_chk (nz_in a0 12) <|
      some ((x7.1 15 (a0).toNatClampNeg), x7)
    else
    if a1 = (4 : Int32) then
      nz_chk (nz_in a0 12) <|
      some ((x7.1 16 (a0).toNatClampNeg), x7)
    else
    if a1 = (5 : Int32) then
      nz_bnd (f_X8_depth  a0 x7) fun r22 x23 =>
      some (r22, x23)
    else
      some ((-2 : Int32), x7)
  else
    some ((-1 : Int32), x3)
theorem ds_X8_block : nz_dsc yX8_block 2 := by unfold nz_dsc; decide +kernel
set_option maxHeartbeats 4000000 in
set_option maxRecDepth 20000 in
theorem k_X8_block {l : Launch} {w : nz_O} {q : Nat → Nat} (a0 : Int32) (a1 : Int32) (x : nz_S) (o : Int32 × nz_S) (hf : f_X8_block a0 a1 x = some o) : nz_MI l yX8_block (nz_T yX8_block cX8_block 3 (some .int)) (nz_R 5 124) w q nz_tM [.ref (q 0), .int a0, .int a1] x o := by
  refine nz_enterI (by decide) rfl (Nat.le_of_ble_eq_true rfl) rfl rfl ?_
  intro κ E hw hlq hR
  subst hw; subst hlq
  unfold f_X8_block at hf
  refine nz_weak (lv' := [(0, .ref (q 0)), (1, .int a0), (2, .int a1)]) ⟨rfl, rfl, rfl, trivial⟩ ?_
  refine nz_aload_n (pc := 0) (i := 0) E dX8_block_0 rfl rfl ?_
  refine nz_iconst (pc := 1) (v := 0) E dX8_block_1 (by decide) ?_
  refine nz_putI (pc := 2) (c := 0) (kf := 0) E rfl rfl (nz_upT nz_uX8) (by decide) (List.mem_cons_of_mem _ nz_w676) rfl tyX8 tyX8_ok nmX8 rfl (tyX8_ok 0 (by decide)) rfl dX8_block_2 ?_
  refine nz_aload_n (pc := 5) (i := 0) E dX8_block_5 rfl rfl ?_
  refine nz_iload_n (pc := 6) (i := 1) E dX8_block_6 rfl rfl ?_
  obtain ⟨r2, x3, h4, hf⟩ := nz_bnd_t hf
  refine nz_callVI (pc := 7) (c0 := 0) (As := [.int _]) E rfl rfl (k_X8_noBlock   _ _ _ h4) (nz_cwV E nz_w875 nz_w877 nz_w38 nz_w67 nz_w878 ds_X8_noBlock ⟨Nat.le_of_ble_eq_true rfl, Nat.le_of_ble_eq_true rfl⟩ rfl rfl) rfl rfl (Nat.le_of_ble_eq_true rfl) dX8_block_7 ?_
  refine nz_if_eq (pc := 10) (tgt := 15) E dX8_block_10 (by decide) (fun h5 => ?_) (fun h5 => ?_)
  · have hf := nz_ite_t hf h5
    refine nz_aload_n (pc := 15) (i := 0) E dX8_block_15 rfl rfl ?_
    refine nz_aload_n (pc := 16) (i := 0) E dX8_block_16 rfl rfl ?_
    refine nz_getR (pc := 17) (c := 0) (kf := 5) E rfl rfl (nz_upT nz_uX8) (by decide) (List.mem_cons_of_mem _ nz_w681) rfl rfl dX8_block_17 ?_
    obtain ⟨r6, x7, h8, hf⟩ := nz_bnd_t hf
    refine nz_callVV (pc := 20) (c0 := 0) (As := [.ref (q 3)]) E rfl rfl (k_X8_find 3 nz_p3 _ _ h8) (nz_cwV E nz_w800 nz_w802 nz_w24 nz_w67 nz_w803 ds_X8_find ⟨Nat.le_of_ble_eq_true rfl, Nat.le_of_ble_eq_true rfl⟩ rfl rfl) rfl rfl (Nat.le_of_ble_eq_true rfl) dX8_block_20 ?_
    refine nz_iload_n (pc := 23) (i := 2) E dX8_block_23 rfl rfl ?_
    by_cases h9 : a1 = 0
    · have hf := nz_ite_t hf h9
      refine nz_tabIn (pc := 24) (off := 40) (tgt := 64) E dX8_block_24 (by rw [h9]; decide) (by rw [h9]; decide) (by rw [h9]; rfl) (by decide) ?_
      refine nz_aload_n (pc := 64) (i := 0) E dX8_block_64 rfl rfl ?_
      refine nz_getR (pc := 65) (c := 0) (kf := 5) E rfl rfl (nz_upT nz_uX8) (by decide) (List.mem_cons_of_mem _ nz_w681) rfl rfl dX8_block_65 ?_
      refine nz_iconst (pc := 68) (v := 1) E dX8_block_68 (by decide) ?_
      refine nz_iload_n (pc := 69) (i := 1) E dX8_block_69 rfl rfl ?_
      refine nz_iadd (pc := 70) E dX8_block_70 ?_
      obtain ⟨h11, hf⟩ := nz_chk_t hf
      refine nz_iald (pc := 71) (c := 3) E rfl h11 dX8_block_71 ?_
      exact nz_iret (pc := 72) E hR rfl hf dX8_block_72
    · have hf := nz_ite_f hf h9
      by_cases h12 : a1 = 1
      · have hf := nz_ite_t hf h12
        refine nz_tabIn (pc := 24) (off := 49) (tgt := 73) E dX8_block_24 (by rw [h12]; decide) (by rw [h12]; decide) (by rw [h12]; rfl) (by decide) ?_
        refine nz_aload_n (pc := 73) (i := 0) E dX8_block_73 rfl rfl ?_
        refine nz_getR (pc := 74) (c := 0) (kf := 5) E rfl rfl (nz_upT nz_uX8) (by decide) (List.mem_cons_of_mem _ nz_w681) rfl rfl dX8_block_74 ?_
        refine nz_bipush (pc := 77) (v := 13) E dX8_block_77 (by decide) ?_
        refine nz_iload_n (pc := 79) (i := 1) E dX8_block_79 rfl rfl ?_
        refine nz_iadd (pc := 80) E dX8_block_80 ?_
        obtain ⟨h14, hf⟩ := nz_chk_t hf
        refine nz_iald (pc := 81) (c := 3) E rfl h14 dX8_block_81 ?_
        exact nz_iret (pc := 82) E hR rfl hf dX8_block_82
      · have hf := nz_ite_f hf h12
        by_cases h15 : a1 = 2
        · have hf := nz_ite_t hf h15
          refine nz_tabIn (pc := 24) (off := 59) (tgt := 83) E dX8_block_24 (by rw [h15]; decide) (by rw [h15]; decide) (by rw [h15]; rfl) (by decide) ?_
          refine nz_aload_n (pc := 83) (i := 0) E dX8_block_83 rfl rfl ?_
          refine nz_getR (pc := 84) (c := 0) (kf := 17) E rfl rfl (nz_upT nz_uX8) (by decide) (List.mem_cons_of_mem _ nz_w693) rfl rfl dX8_block_84 ?_
          refine nz_iload_n (pc := 87) (i := 1) E dX8_block_87 rfl rfl ?_
          obtain ⟨h16, hf⟩ := nz_chk_t hf
          refine nz_iald (pc := 88) (c := 11) E rfl h16 dX8_block_88 ?_
          exact nz_iret (pc := 89) E hR rfl hf dX8_block_89
        · have hf := nz_ite_f hf h15
          by_cases h17 : a1 = 3
          · have hf := nz_ite_t hf h17
            refine nz_tabIn (pc := 24) (off := 66) (tgt := 90) E dX8_block_24 (by rw [h17]; decide) (by rw [h17]; decide) (by rw [h17]; rfl) (by decide) ?_
            refine nz_aload_n (pc := 90) (i := 0) E dX8_block_90 rfl rfl ?_
            refine nz_getR (pc := 91) (c := 0) (kf := 21) E rfl rfl (nz_upT nz_uX8) (by decide) (List.mem_cons_of_mem _ nz_w697) rfl rfl dX8_block_91 ?_
            refine nz_iload_n (pc := 94) (i := 1) E dX8_block_94 rfl rfl ?_
            obtain ⟨h18, hf⟩ := nz_chk_t hf
            refine nz_iald (pc := 95) (c := 15) E rfl h18 dX8_block_95 ?_
            exact nz_iret (pc := 96) E hR rfl hf dX8_block_96
          · have hf := nz_ite_f hf h17
            by_cases h19 : a1 = 4
            · have hf := nz_ite_t hf h19
              refine nz_tabIn (pc := 24) (off := 73) (tgt := 97) E dX8_block_24 (by rw [h19]; decide) (by rw [h19]; decide) (by rw [h19]; rfl) (by decide) ?_
              refine nz_aload_n (pc := 97) (i := 0) E dX8_block_97 rfl rfl ?_
              refine nz_getR (pc := 98) (c := 0) (kf := 22) E rfl rfl (nz_upT nz_uX8) (by decide) (List.mem_cons_of_mem _ nz_w698) rfl rfl dX8_block_98 ?_
              refine nz_iload_n (pc := 101) (i := 1) E dX8_block_101 rfl rfl ?_
              obtain ⟨h20, hf⟩ := nz_chk_t hf
              refine nz_iald (pc := 102) (c := 16) E rfl h20 dX8_block_102 ?_
              exact nz_iret (pc := 103) E hR rfl hf dX8_block_103
            · have hf := nz_ite_f hf h19
              by_cases h21 : a1 = 5
              · have hf := nz_ite_t hf h21
                refine nz_tabIn (pc := 24) (off := 80) (tgt := 104) E dX8_block_24 (by rw [h21]; decide) (by rw [h21]; decide) (by rw [h21]; rfl) (by decide) ?_
                refine nz_aload_n (pc := 104) (i := 0) E dX8_block_104 rfl rfl ?_
                refine nz_iload_n (pc := 105) (i := 1) E dX8_block_105 rfl rfl ?_
                obtain ⟨r22, x23, h24, hf⟩ := nz_bnd_t hf
                refine nz_callVI (pc := 106) (c0 := 0) (As := [.int _]) E rfl rfl (k_X8_depth   _ _ _ h24) (nz_cwV E nz_w853 nz_w855 nz_w35 nz_w67 nz_w856 ds_X8_depth ⟨Nat.le_of_ble_eq_true rfl, Nat.le_of_ble_eq_true rfl⟩ rfl rfl) rfl rfl (Nat.le_of_ble_eq_true rfl) dX8_block_106 ?_
                exact nz_iret (pc := 109) E hR rfl hf dX8_block_109
              · have hf := nz_ite_f hf h21
                have th9 : (a1).toInt ≠ 0 := fun e => h9 (nz_i32 (by rw [e]; decide))
                have th12 : (a1).toInt ≠ 1 := fun e => h12 (nz_i32 (by rw [e]; decide))
                have th15 : (a1).toInt ≠ 2 := fun e => h15 (nz_i32 (by rw [e]; decide))
                have th17 : (a1).toInt ≠ 3 := fun e => h17 (nz_i32 (by rw [e]; decide))
                have th19 : (a1).toInt ≠ 4 := fun e => h19 (nz_i32 (by rw [e]; decide))
                have th21 : (a1).toInt ≠ 5 := fun e => h21 (nz_i32 (by rw [e]; decide))
                refine nz_tabOut (pc := 24) (tgt := 110) E dX8_block_24 (by omega) (by decide) ?_
                refine nz_bipush (pc := 110) (v := -2) E dX8_block_110 (by decide) ?_
                exact nz_iret (pc := 112) E hR rfl hf dX8_block_112
  · have hf := nz_ite_f hf h5
    refine nz_iconst (pc := 13) (v := -1) E dX8_block_13 (by decide) ?_
    exact nz_iret (pc := 14) E hR rfl hf dX8_block_14
def f_X8_arc (a0 : Int32) (a1 : Int32) (x : nz_S) : Option (Int32 × nz_S) :=
  let x1 : nz_S := nz_put x 0 0 (0 : Int32)
  nz_bnd (f_X8_noArc  a0 a1 x1) fun r2 x3 =>
  if r2 = (0 : Int32) then
    let v6 : Int32 := (((25 : Int32) + ((3 : Int32) * a0)) + a1)
    nz_chk (nz_in v6 61) <|
    some ((x3.1 3 (v6).toNatClampNeg), x3)
  else
    some ((-1 : Int32), x3)
theorem ds_X8_arc : nz_dsc yX8_arc 2 := by unfold nz_dsc; decide +kernel
set_option maxHeartbeats 4000000 in
set_option maxRecDepth 20000 in
theorem k_X8_arc {l : Launch} {w : nz_O} {q : Nat → Nat} (a0 : Int32) (a1 : Int32) (x : nz_S) (o : Int32 × nz_S) (hf : f_X8_arc a0 a1 x = some o) : nz_MI l yX8_arc (nz_T yX8_arc cX8_arc 3 (some .int)) (nz_R 3 68) w q nz_tM [.ref (q 0), .int a0, .int a1] x o := by
  refine nz_enterI (by decide) rfl (Nat.le_of_ble_eq_true rfl) rfl rfl ?_
  intro κ E hw hlq hR
  subst hw; subst hlq
  unfold f_X8_arc at hf
  refine nz_weak (lv' := [(0, .ref (q 0)), (1, .int a0), (2, .int a1)]) ⟨rfl, rfl, rfl, trivial⟩ ?_
  refine nz_aload_n (pc := 0) (i := 0) E dX8_arc_0 rfl rfl ?_
  refine nz_iconst (pc := 1) (v := 0) E dX8_arc_1 (by decide) ?_
  refine nz_putI (pc := 2) (c := 0) (kf := 0) E rfl rfl (nz_upT nz_uX8) (by decide) (List.mem_cons_of_mem _ nz_w676) rfl tyX8 tyX8_ok nmX8 rfl (tyX8_ok 0 (by decide)) rfl dX8_arc_2 ?_
  refine nz_aload_n (pc := 5) (i := 0) E dX8_arc_5 rfl rfl ?_
  refine nz_iload_n (pc := 6) (i := 1) E dX8_arc_6 rfl rfl ?_
  refine nz_iload_n (pc := 7) (i := 2) E dX8_arc_7 rfl rfl ?_
  obtain ⟨r2, x3, h4, hf⟩ := nz_bnd_t hf
  refine nz_callVI (pc := 8) (c0 := 0) (As := [.int _, .int _]) E rfl rfl (k_X8_noArc   _ _ _ _ h4) (nz_cwV E nz_w883 nz_w885 nz_w39 nz_w67 nz_w886 ds_X8_noArc ⟨Nat.le_of_ble_eq_true rfl, Nat.le_of_ble_eq_true rfl⟩ rfl rfl) rfl rfl (Nat.le_of_ble_eq_true rfl) dX8_arc_8 ?_
  refine nz_if_eq (pc := 11) (tgt := 18) E dX8_arc_11 (by decide) (fun h5 => ?_) (fun h5 => ?_)
  · have hf := nz_ite_t hf h5
    refine nz_aload_n (pc := 18) (i := 0) E dX8_arc_18 rfl rfl ?_
    refine nz_getR (pc := 19) (c := 0) (kf := 5) E rfl rfl (nz_upT nz_uX8) (by decide) (List.mem_cons_of_mem _ nz_w681) rfl rfl dX8_arc_19 ?_
    refine nz_bipush (pc := 22) (v := 25) E dX8_arc_22 (by decide) ?_
    refine nz_iconst (pc := 24) (v := 3) E dX8_arc_24 (by decide) ?_
    refine nz_iload_n (pc := 25) (i := 1) E dX8_arc_25 rfl rfl ?_
    refine nz_imul (pc := 26) E dX8_arc_26 ?_
    refine nz_iadd (pc := 27) E dX8_arc_27 ?_
    refine nz_iload_n (pc := 28) (i := 2) E dX8_arc_28 rfl rfl ?_
    refine nz_iadd (pc := 29) E dX8_arc_29 ?_
    obtain ⟨h7, hf⟩ := nz_chk_t hf
    refine nz_iald (pc := 30) (c := 3) E rfl h7 dX8_arc_30 ?_
    exact nz_iret (pc := 31) E hR rfl hf dX8_arc_31
  · have hf := nz_ite_f hf h5
    refine nz_iconst (pc := 14) (v := -1) E dX8_arc_14 (by decide) ?_
    refine nz_goto (pc := 15) (tgt := 31) E dX8_arc_15 (by decide) ?_
    exact nz_iret (pc := 31) E hR rfl hf dX8_arc_31
def f_X8_aboveSet_4 (c1 : Int32) : Nat → Int32 → Int32 → nz_S → (Int32 → Int32 → nz_S → Option (Int32 × nz_S)) → Option (Int32 × nz_S)
  | 0, _, _, _, _ => none
  | fu + 1, w2, w3, x, K =>
  if (12 : Int32) ≤ w3 then
    K w2 w3 x
  else
    nz_bnd (f_X8_isAbove  c1 w3 x) fun r2 x3 =>
    if r2 = (0 : Int32) then
      let v6 : Int32 := (w2 ||| (0 : Int32))
      let v7 : Int32 := w3 + 1
      f_X8_aboveSet_4 c1 fu v6 v7 x3 K
    else
      let v8 : Int32 := (w2 ||| ((1 : Int32) <<< (w3 &&& 31)))
      let v9 : Int32 := w3 + 1
      f_X8_aboveSet_4 c1 fu v8 v9 x3 K
def f_X8_aboveSet (a0 : Int32) (x : nz_S) : Option (Int32 × nz_S) :=
  f_X8_aboveSet_4 a0 nz_F (0 : Int32) (0 : Int32) x fun u11 u12 x10 =>
    some (u11, x10)
theorem ds_X8_aboveSet : nz_dsc yX8_aboveSet 1 := by unfold nz_dsc; decide +kernel
set_option maxHeartbeats 4000000 in
set_option maxRecDepth 20000 in
theorem w_X8_aboveSet_4 {κ : nz_C} {q : Nat → Nat} {o : Int32 × nz_S} (c1 : Int32) (E : nz_Env κ q nz_tM 4 cX8_aboveSet RX8 (nz_T yX8_aboveSet cX8_aboveSet 4 (some .int)) (nz_R 2 47)) (hR : nz_RI κ q nz_tM .int o) : ∀ (fu : Nat) (w2 : Int32) (w3 : Int32) (x : nz_S) (K : Int32 → Int32 → nz_S → Option (Int32 × nz_S)), f_X8_aboveSet_4 c1 fu w2 w3 x K = some o → (∀ (w2 : Int32) (w3 : Int32) (x : nz_S), K w2 w3 x = some o → nz_St κ q nz_tM 4 35 [(0, .ref (q 0)), (1, .int c1), (2, .int w2), (3, .int w3)] [] x) → nz_St κ q nz_tM 4 4 [(0, .ref (q 0)), (1, .int c1), (2, .int w2), (3, .int w3)] [] x := by
  intro fu
  induction fu with
  | zero => intro w2 w3 x K hf; rw [f_X8_aboveSet_4] at hf; cases hf
  | succ fu ih =>
    intro w2 w3 x K hf hK
    rw [f_X8_aboveSet_4] at hf
    refine nz_iload_n (pc := 4) (i := 3) E dX8_aboveSet_4 rfl rfl ?_
    refine nz_bipush (pc := 5) (v := 12) E dX8_aboveSet_5 (by decide) ?_
    refine nz_icmp_ge (pc := 7) (tgt := 35) E dX8_aboveSet_7 (by decide) (fun h1 => ?_) (fun h1 => ?_)
    · have hf := nz_ite_t hf h1
      refine nz_weak (lv' := [(0, .ref (q 0)), (1, .int _), (2, .int _), (3, .int _)]) ⟨rfl, rfl, rfl, rfl, trivial⟩ ?_
      exact hK _ _ _ hf
    · have hf := nz_ite_f hf h1
      refine nz_iload_n (pc := 10) (i := 2) E dX8_aboveSet_10 rfl rfl ?_
      refine nz_aload_n (pc := 11) (i := 0) E dX8_aboveSet_11 rfl rfl ?_
      refine nz_iload_n (pc := 12) (i := 1) E dX8_aboveSet_12 rfl rfl ?_
      refine nz_iload_n (pc := 13) (i := 3) E dX8_aboveSet_13 rfl rfl ?_
      obtain ⟨r2, x3, h4, hf⟩ := nz_bnd_t hf
      refine nz_callVI (pc := 14) (c0 := 0) (As := [.int _, .int _]) E rfl rfl (k_X8_isAbove   _ _ _ _ h4) (nz_cwV E nz_w819 nz_w821 nz_w28 nz_w67 nz_w822 ds_X8_isAbove ⟨Nat.le_of_ble_eq_true rfl, Nat.le_of_ble_eq_true rfl⟩ rfl rfl) rfl rfl (Nat.le_of_ble_eq_true rfl) dX8_aboveSet_14 ?_
      refine nz_if_eq (pc := 17) (tgt := 26) E dX8_aboveSet_17 (by decide) (fun h5 => ?_) (fun h5 => ?_)
      · have hf := nz_ite_t hf h5
        refine nz_iconst (pc := 26) (v := 0) E dX8_aboveSet_26 (by decide) ?_
        refine nz_ior (pc := 27) E dX8_aboveSet_27 ?_
        refine nz_istore_n (pc := 28) (i := 2) E dX8_aboveSet_28 rfl (by decide) rfl ?_
        refine nz_iinc (pc := 29) (i := 3) (w := 1) E dX8_aboveSet_29 rfl (by decide) (by decide) rfl ?_
        refine nz_goto (pc := 32) (tgt := 4) E dX8_aboveSet_32 (by decide) ?_
        refine nz_weak (lv' := [(0, .ref (q 0)), (1, .int _), (2, .int _), (3, .int _)]) ⟨rfl, rfl, rfl, rfl, trivial⟩ ?_
        exact ih _ _ _ _ hf hK
      · have hf := nz_ite_f hf h5
        refine nz_iconst (pc := 20) (v := 1) E dX8_aboveSet_20 (by decide) ?_
        refine nz_iload_n (pc := 21) (i := 3) E dX8_aboveSet_21 rfl rfl ?_
        refine nz_ishl (pc := 22) E dX8_aboveSet_22 ?_
        refine nz_goto (pc := 23) (tgt := 27) E dX8_aboveSet_23 (by decide) ?_
        refine nz_ior (pc := 27) E dX8_aboveSet_27 ?_
        refine nz_istore_n (pc := 28) (i := 2) E dX8_aboveSet_28 rfl (by decide) rfl ?_
        refine nz_iinc (pc := 29) (i := 3) (w := 1) E dX8_aboveSet_29 rfl (by decide) (by decide) rfl ?_
        refine nz_goto (pc := 32) (tgt := 4) E dX8_aboveSet_32 (by decide) ?_
        refine nz_weak (lv' := [(0, .ref (q 0)), (1, .int _), (2, .int _), (3, .int _)]) ⟨rfl, rfl, rfl, rfl, trivial⟩ ?_
        exact ih _ _ _ _ hf hK
set_option maxHeartbeats 4000000 in
set_option maxRecDepth 20000 in
theorem k_X8_aboveSet {l : Launch} {w : nz_O} {q : Nat → Nat} (a0 : Int32) (x : nz_S) (o : Int32 × nz_S) (hf : f_X8_aboveSet a0 x = some o) : nz_MI l yX8_aboveSet (nz_T yX8_aboveSet cX8_aboveSet 4 (some .int)) (nz_R 2 47) w q nz_tM [.ref (q 0), .int a0] x o := by
  refine nz_enterI (by decide) rfl (Nat.le_of_ble_eq_true rfl) rfl rfl ?_
  intro κ E hw hlq hR
  subst hw; subst hlq
  unfold f_X8_aboveSet at hf
  refine nz_weak (lv' := [(0, .ref (q 0)), (1, .int a0)]) ⟨rfl, rfl, trivial⟩ ?_
  refine nz_iconst (pc := 0) (v := 0) E dX8_aboveSet_0 (by decide) ?_
  refine nz_istore_n (pc := 1) (i := 2) E dX8_aboveSet_1 rfl (by decide) rfl ?_
  refine nz_iconst (pc := 2) (v := 0) E dX8_aboveSet_2 (by decide) ?_
  refine nz_istore_n (pc := 3) (i := 3) E dX8_aboveSet_3 rfl (by decide) rfl ?_
  refine nz_weak (lv' := [(0, .ref (q 0)), (1, .int _), (2, .int _), (3, .int _)]) ⟨rfl, rfl, rfl, rfl, trivial⟩ ?_
  refine w_X8_aboveSet_4 _ E hR _ _ _ _ _ hf (fun u11 u12 x10 hf => ?_)
  refine nz_iload_n (pc := 35) (i := 2) E dX8_aboveSet_35 rfl rfl ?_
  exact nz_iret (pc := 36) E hR rfl hf dX8_aboveSet_36
def f_X8_sets (a0 : Int32) (a1 : Int32) (x : nz_S) : Option (Int32 × nz_S) :=
  let x1 : nz_S := nz_put x 0 0 (0 : Int32)
  nz_bnd (f_X8_noBlock  a0 x1) fun r2 x3 =>
  if r2 = (0 : Int32) then
    nz_bnd (f_X8_in  (a1).toInt64 (0 : Int64) (3 : Int64) x3) fun r6 x7 =>
    if r6 = (0 : Int32) then
      some ((-2 : Int32), x7)
    else
      nz_bnd (f_X8_find 3  x7) fun r10 x11 =>
      nz_chk (nz_in a0 12) <|
      if (x11.1 11 (a0).toNatClampNeg) = (-9 : Int32) then
        some ((0 : Int32), x11)
      else
        if a1 = (0 : Int32) then
          nz_bnd (f_X8_aboveSet  a0 x11) fun r25 x26 =>
          some (r25, x26)
        else
          if a1 = (1 : Int32) then
            nz_bnd (f_X8_nest  a0 x11) fun r22 x23 =>
            some (r22, x23)
          else
            if a1 = (2 : Int32) then
              nz_bnd (f_X8_passed 3 a0 x11) fun r19 x20 =>
              some (r19, x20)
            else
              nz_chk (nz_in a0 12) <|
              some ((x11.1 17 (a0).toNatClampNeg), x11)
  else
    some ((-1 : Int32), x3)
theorem ds_X8_sets : nz_dsc yX8_sets 2 := by unfold nz_dsc; decide +kernel
set_option maxHeartbeats 4000000 in
set_option maxRecDepth 20000 in
theorem k_X8_sets {l : Launch} {w : nz_O} {q : Nat → Nat} (a0 : Int32) (a1 : Int32) (x : nz_S) (o : Int32 × nz_S) (hf : f_X8_sets a0 a1 x = some o) : nz_MI l yX8_sets (nz_T yX8_sets cX8_sets 3 (some .int)) (nz_R 5 124) w q nz_tM [.ref (q 0), .int a0, .int a1] x o := by
  refine nz_enterI (by decide) rfl (Nat.le_of_ble_eq_true rfl) rfl rfl ?_
  intro κ E hw hlq hR
  subst hw; subst hlq
  unfold f_X8_sets at hf
  refine nz_weak (lv' := [(0, .ref (q 0)), (1, .int a0), (2, .int a1)]) ⟨rfl, rfl, rfl, trivial⟩ ?_
  refine nz_aload_n (pc := 0) (i := 0) E dX8_sets_0 rfl rfl ?_
  refine nz_iconst (pc := 1) (v := 0) E dX8_sets_1 (by decide) ?_
  refine nz_putI (pc := 2) (c := 0) (kf := 0) E rfl rfl (nz_upT nz_uX8) (by decide) (List.mem_cons_of_mem _ nz_w676) rfl tyX8 tyX8_ok nmX8 rfl (tyX8_ok 0 (by decide)) rfl dX8_sets_2 ?_
  refine nz_aload_n (pc := 5) (i := 0) E dX8_sets_5 rfl rfl ?_
  refine nz_iload_n (pc := 6) (i := 1) E dX8_sets_6 rfl rfl ?_
  obtain ⟨r2, x3, h4, hf⟩ := nz_bnd_t hf
  refine nz_callVI (pc := 7) (c0 := 0) (As := [.int _]) E rfl rfl (k_X8_noBlock   _ _ _ h4) (nz_cwV E nz_w875 nz_w877 nz_w38 nz_w67 nz_w878 ds_X8_noBlock ⟨Nat.le_of_ble_eq_true rfl, Nat.le_of_ble_eq_true rfl⟩ rfl rfl) rfl rfl (Nat.le_of_ble_eq_true rfl) dX8_sets_7 ?_
  refine nz_if_eq (pc := 10) (tgt := 15) E dX8_sets_10 (by decide) (fun h5 => ?_) (fun h5 => ?_)
  · have hf := nz_ite_t hf h5
    refine nz_iload_n (pc := 15) (i := 2) E dX8_sets_15 rfl rfl ?_
    refine nz_i2l (pc := 16) E dX8_sets_16 ?_
    refine nz_lconst (pc := 17) (v := 0) E dX8_sets_17 (by decide) ?_
    refine nz_ldc2 (pc := 18) E (List.mem_cons_of_mem _ nz_w891) dX8_sets_18 ?_
    obtain ⟨r6, x7, h8, hf⟩ := nz_bnd_t hf
    refine nz_callSI (pc := 21) (As := [.long _, .long _, .long _]) E (k_X8_in   _ _ _ _ _ h8) (nz_cwS E nz_w766 nz_w767 nz_w67 nz_w768 ds_X8_in ⟨Nat.le_of_ble_eq_true rfl, Nat.le_of_ble_eq_true rfl⟩ rfl rfl) rfl rfl (Nat.le_of_ble_eq_true rfl) dX8_sets_21 ?_
    refine nz_if_ne (pc := 24) (tgt := 30) E dX8_sets_24 (by decide) (fun h9 => ?_) (fun h9 => ?_)
    · have hf := nz_ite_f hf h9
      refine nz_aload_n (pc := 30) (i := 0) E dX8_sets_30 rfl rfl ?_
      refine nz_aload_n (pc := 31) (i := 0) E dX8_sets_31 rfl rfl ?_
      refine nz_getR (pc := 32) (c := 0) (kf := 5) E rfl rfl (nz_upT nz_uX8) (by decide) (List.mem_cons_of_mem _ nz_w681) rfl rfl dX8_sets_32 ?_
      obtain ⟨r10, x11, h12, hf⟩ := nz_bnd_t hf
      refine nz_callVV (pc := 35) (c0 := 0) (As := [.ref (q 3)]) E rfl rfl (k_X8_find 3 nz_p3 _ _ h12) (nz_cwV E nz_w800 nz_w802 nz_w24 nz_w67 nz_w803 ds_X8_find ⟨Nat.le_of_ble_eq_true rfl, Nat.le_of_ble_eq_true rfl⟩ rfl rfl) rfl rfl (Nat.le_of_ble_eq_true rfl) dX8_sets_35 ?_
      refine nz_aload_n (pc := 38) (i := 0) E dX8_sets_38 rfl rfl ?_
      refine nz_getR (pc := 39) (c := 0) (kf := 17) E rfl rfl (nz_upT nz_uX8) (by decide) (List.mem_cons_of_mem _ nz_w693) rfl rfl dX8_sets_39 ?_
      refine nz_iload_n (pc := 42) (i := 1) E dX8_sets_42 rfl rfl ?_
      obtain ⟨h13, hf⟩ := nz_chk_t hf
      refine nz_iald (pc := 43) (c := 11) E rfl h13 dX8_sets_43 ?_
      refine nz_bipush (pc := 44) (v := -9) E dX8_sets_44 (by decide) ?_
      refine nz_icmp_ne (pc := 46) (tgt := 51) E dX8_sets_46 (by decide) (fun h14 => ?_) (fun h14 => ?_)
      · have hf := nz_ite_f hf h14
        refine nz_iload_n (pc := 51) (i := 2) E dX8_sets_51 rfl rfl ?_
        refine nz_if_ne (pc := 52) (tgt := 63) E dX8_sets_52 (by decide) (fun h15 => ?_) (fun h15 => ?_)
        · have hf := nz_ite_f hf h15
          refine nz_iload_n (pc := 63) (i := 2) E dX8_sets_63 rfl rfl ?_
          refine nz_iconst (pc := 64) (v := 1) E dX8_sets_64 (by decide) ?_
          refine nz_icmp_ne (pc := 65) (tgt := 76) E dX8_sets_65 (by decide) (fun h16 => ?_) (fun h16 => ?_)
          · have hf := nz_ite_f hf h16
            refine nz_iload_n (pc := 76) (i := 2) E dX8_sets_76 rfl rfl ?_
            refine nz_iconst (pc := 77) (v := 2) E dX8_sets_77 (by decide) ?_
            refine nz_icmp_ne (pc := 78) (tgt := 92) E dX8_sets_78 (by decide) (fun h17 => ?_) (fun h17 => ?_)
            · have hf := nz_ite_f hf h17
              refine nz_aload_n (pc := 92) (i := 0) E dX8_sets_92 rfl rfl ?_
              refine nz_getR (pc := 93) (c := 0) (kf := 23) E rfl rfl (nz_upT nz_uX8) (by decide) (List.mem_cons_of_mem _ nz_w699) rfl rfl dX8_sets_93 ?_
              refine nz_iload_n (pc := 96) (i := 1) E dX8_sets_96 rfl rfl ?_
              obtain ⟨h18, hf⟩ := nz_chk_t hf
              refine nz_iald (pc := 97) (c := 17) E rfl h18 dX8_sets_97 ?_
              exact nz_iret (pc := 98) E hR rfl hf dX8_sets_98
            · have hf := nz_ite_t hf h17
              refine nz_aload_n (pc := 81) (i := 0) E dX8_sets_81 rfl rfl ?_
              refine nz_getR (pc := 82) (c := 0) (kf := 5) E rfl rfl (nz_upT nz_uX8) (by decide) (List.mem_cons_of_mem _ nz_w681) rfl rfl dX8_sets_82 ?_
              refine nz_iload_n (pc := 85) (i := 1) E dX8_sets_85 rfl rfl ?_
              obtain ⟨r19, x20, h21, hf⟩ := nz_bnd_t hf
              refine nz_callSI (pc := 86) (As := [.ref (q 3), .int _]) E (k_X8_passed 3 nz_p3 _ _ _ h21) (nz_cwS E nz_w861 nz_w862 nz_w67 nz_w863 ds_X8_passed ⟨Nat.le_of_ble_eq_true rfl, Nat.le_of_ble_eq_true rfl⟩ rfl rfl) rfl rfl (Nat.le_of_ble_eq_true rfl) dX8_sets_86 ?_
              refine nz_goto (pc := 89) (tgt := 98) E dX8_sets_89 (by decide) ?_
              exact nz_iret (pc := 98) E hR rfl hf dX8_sets_98
          · have hf := nz_ite_t hf h16
            refine nz_aload_n (pc := 68) (i := 0) E dX8_sets_68 rfl rfl ?_
            refine nz_iload_n (pc := 69) (i := 1) E dX8_sets_69 rfl rfl ?_
            obtain ⟨r22, x23, h24, hf⟩ := nz_bnd_t hf
            refine nz_callVI (pc := 70) (c0 := 0) (As := [.int _]) E rfl rfl (k_X8_nest   _ _ _ h24) (nz_cwV E nz_w896 nz_w898 nz_w41 nz_w67 nz_w899 ds_X8_nest ⟨Nat.le_of_ble_eq_true rfl, Nat.le_of_ble_eq_true rfl⟩ rfl rfl) rfl rfl (Nat.le_of_ble_eq_true rfl) dX8_sets_70 ?_
            refine nz_goto (pc := 73) (tgt := 98) E dX8_sets_73 (by decide) ?_
            exact nz_iret (pc := 98) E hR rfl hf dX8_sets_98
        · have hf := nz_ite_t hf h15
          refine nz_aload_n (pc := 55) (i := 0) E dX8_sets_55 rfl rfl ?_
          refine nz_iload_n (pc := 56) (i := 1) E dX8_sets_56 rfl rfl ?_
          obtain ⟨r25, x26, h27, hf⟩ := nz_bnd_t hf
          refine nz_callVI (pc := 57) (c0 := 0) (As := [.int _]) E rfl rfl (k_X8_aboveSet   _ _ _ h27) (nz_cwV E nz_w892 nz_w894 nz_w40 nz_w67 nz_w895 ds_X8_aboveSet ⟨Nat.le_of_ble_eq_true rfl, Nat.le_of_ble_eq_true rfl⟩ rfl rfl) rfl rfl (Nat.le_of_ble_eq_true rfl) dX8_sets_57 ?_
          refine nz_goto (pc := 60) (tgt := 98) E dX8_sets_60 (by decide) ?_
          exact nz_iret (pc := 98) E hR rfl hf dX8_sets_98
      · have hf := nz_ite_t hf h14
        refine nz_iconst (pc := 49) (v := 0) E dX8_sets_49 (by decide) ?_
        exact nz_iret (pc := 50) E hR rfl hf dX8_sets_50
    · have hf := nz_ite_t hf h9
      refine nz_bipush (pc := 27) (v := -2) E dX8_sets_27 (by decide) ?_
      exact nz_iret (pc := 29) E hR rfl hf dX8_sets_29
  · have hf := nz_ite_f hf h5
    refine nz_iconst (pc := 13) (v := -1) E dX8_sets_13 (by decide) ?_
    exact nz_iret (pc := 14) E hR rfl hf dX8_sets_14
def f_X8_note_51 : Nat → Int32 → nz_S → (Int32 → nz_S → Option (Unit × nz_S)) → Option (Unit × nz_S)
  | 0, _, _, _ => none
  | fu + 1, w1, x, K =>
  if (61 : Int32) ≤ w1 then
    K w1 x
  else
    nz_chk (nz_in w1 61) <|
    let v4 : Int32 := (((61 : Int32) * (x.1 0 8)) + w1)
    nz_chk (nz_in v4 854) <|
    let x6 : nz_S := nz_put x 5 (v4).toNatClampNeg (x.1 3 (w1).toNatClampNeg)
    let v7 : Int32 := w1 + 1
    f_X8_note_51 fu v7 x6 K
def f_X8_note_11 : Nat → Int32 → nz_S → (Int32 → nz_S → Option (Unit × nz_S)) → Option (Unit × nz_S)
  | 0, _, _, _ => none
  | fu + 1, w1, x, K =>
  if (793 : Int32) ≤ w1 then
    K w1 x
  else
    let v12 : Int32 := (w1 + (61 : Int32))
    nz_chk (nz_in v12 854) <|
    nz_chk (nz_in w1 854) <|
    let x15 : nz_S := nz_put x 5 (w1).toNatClampNeg (x.1 5 (v12).toNatClampNeg)
    let v16 : Int32 := w1 + 1
    f_X8_note_11 fu v16 x15 K
def f_X8_note (x : nz_S) : Option (Unit × nz_S) :=
  if (x.1 0 8) = (14 : Int32) then
    f_X8_note_11 nz_F (0 : Int32) x fun u18 x17 =>
      let x19 : nz_S := nz_put x17 0 8 ((x17.1 0 8) - (1 : Int32))
      f_X8_note_51 nz_F (0 : Int32) x19 fun u21 x20 =>
        let x22 : nz_S := nz_put x20 0 8 ((x20.1 0 8) + (1 : Int32))
        some ((), x22)
  else
    f_X8_note_51 nz_F (0 : Int32) x fun u9 x8 =>
      let x10 : nz_S := nz_put x8 0 8 ((x8.1 0 8) + (1 : Int32))
      some ((), x10)
theorem ds_X8_note : nz_dsc yX8_note 0 := by unfold nz_dsc; decide +kernel
set_option maxHeartbeats 4000000 in
set_option maxRecDepth 20000 in
theorem w_X8_note_51 {κ : nz_C} {q : Nat → Nat} {o : Unit × nz_S} (E : nz_Env κ q nz_tM 2 cX8_note RX8 (nz_T yX8_note cX8_note 2 (none)) (nz_R 0 0)) (hR : nz_RV κ q nz_tM o) : ∀ (fu : Nat) (w1 : Int32) (x : nz_S) (K : Int32 → nz_S → Option (Unit × nz_S)), f_X8_note_51 fu w1 x K = some o → (∀ (w1 : Int32) (x : nz_S), K w1 x = some o → nz_St κ q nz_tM 2 83 [(0, .ref (q 0)), (1, .int w1)] [] x) → nz_St κ q nz_tM 2 51 [(0, .ref (q 0)), (1, .int w1)] [] x := by
  intro fu
  induction fu with
  | zero => intro w1 x K hf; rw [f_X8_note_51] at hf; cases hf
  | succ fu ih =>
    intro w1 x K hf hK
    rw [f_X8_note_51] at hf
    refine nz_iload_n (pc := 51) (i := 1) E dX8_note_51 rfl rfl ?_
    refine nz_bipush (pc := 52) (v := 61) E dX8_note_52 (by decide) ?_
    refine nz_icmp_ge (pc := 54) (tgt := 83) E dX8_note_54 (by decide) (fun h2 => ?_) (fun h2 => ?_)
    · have hf := nz_ite_t hf h2
      refine nz_weak (lv' := [(0, .ref (q 0)), (1, .int _)]) ⟨rfl, rfl, trivial⟩ ?_
      exact hK _ _ hf
    · have hf := nz_ite_f hf h2
      refine nz_aload_n (pc := 57) (i := 0) E dX8_note_57 rfl rfl ?_
      refine nz_getR (pc := 58) (c := 0) (kf := 7) E rfl rfl (nz_upT nz_uX8) (by decide) (List.mem_cons_of_mem _ nz_w683) rfl rfl dX8_note_58 ?_
      refine nz_bipush (pc := 61) (v := 61) E dX8_note_61 (by decide) ?_
      refine nz_aload_n (pc := 63) (i := 0) E dX8_note_63 rfl rfl ?_
      refine nz_getI (pc := 64) (c := 0) (kf := 8) E rfl rfl (nz_upT nz_uX8) (by decide) (List.mem_cons_of_mem _ nz_w684) rfl rfl dX8_note_64 ?_
      refine nz_imul (pc := 67) E dX8_note_67 ?_
      refine nz_iload_n (pc := 68) (i := 1) E dX8_note_68 rfl rfl ?_
      refine nz_iadd (pc := 69) E dX8_note_69 ?_
      refine nz_aload_n (pc := 70) (i := 0) E dX8_note_70 rfl rfl ?_
      refine nz_getR (pc := 71) (c := 0) (kf := 5) E rfl rfl (nz_upT nz_uX8) (by decide) (List.mem_cons_of_mem _ nz_w681) rfl rfl dX8_note_71 ?_
      refine nz_iload_n (pc := 74) (i := 1) E dX8_note_74 rfl rfl ?_
      obtain ⟨h3, hf⟩ := nz_chk_t hf
      refine nz_iald (pc := 75) (c := 3) E rfl h3 dX8_note_75 ?_
      obtain ⟨h5, hf⟩ := nz_chk_t hf
      refine nz_iast (pc := 76) (c := 5) E rfl h5 dX8_note_76 ?_
      refine nz_iinc (pc := 77) (i := 1) (w := 1) E dX8_note_77 rfl (by decide) (by decide) rfl ?_
      refine nz_goto (pc := 80) (tgt := 51) E dX8_note_80 (by decide) ?_
      refine nz_weak (lv' := [(0, .ref (q 0)), (1, .int _)]) ⟨rfl, rfl, trivial⟩ ?_
      exact ih _ _ _ hf hK
set_option maxHeartbeats 4000000 in
set_option maxRecDepth 20000 in
theorem w_X8_note_11 {κ : nz_C} {q : Nat → Nat} {o : Unit × nz_S} (E : nz_Env κ q nz_tM 2 cX8_note RX8 (nz_T yX8_note cX8_note 2 (none)) (nz_R 0 0)) (hR : nz_RV κ q nz_tM o) : ∀ (fu : Nat) (w1 : Int32) (x : nz_S) (K : Int32 → nz_S → Option (Unit × nz_S)), f_X8_note_11 fu w1 x K = some o → (∀ (w1 : Int32) (x : nz_S), K w1 x = some o → nz_St κ q nz_tM 2 39 [(0, .ref (q 0)), (1, .int w1)] [] x) → nz_St κ q nz_tM 2 11 [(0, .ref (q 0)), (1, .int w1)] [] x := by
  intro fu
  induction fu with
  | zero => intro w1 x K hf; rw [f_X8_note_11] at hf; cases hf
  | succ fu ih =>
    intro w1 x K hf hK
    rw [f_X8_note_11] at hf
    refine nz_iload_n (pc := 11) (i := 1) E dX8_note_11 rfl rfl ?_
    refine nz_sipush (pc := 12) (v := 793) E dX8_note_12 (by decide) ?_
    refine nz_icmp_ge (pc := 15) (tgt := 39) E dX8_note_15 (by decide) (fun h11 => ?_) (fun h11 => ?_)
    · have hf := nz_ite_t hf h11
      refine nz_weak (lv' := [(0, .ref (q 0)), (1, .int _)]) ⟨rfl, rfl, trivial⟩ ?_
      exact hK _ _ hf
    · have hf := nz_ite_f hf h11
      refine nz_aload_n (pc := 18) (i := 0) E dX8_note_18 rfl rfl ?_
      refine nz_getR (pc := 19) (c := 0) (kf := 7) E rfl rfl (nz_upT nz_uX8) (by decide) (List.mem_cons_of_mem _ nz_w683) rfl rfl dX8_note_19 ?_
      refine nz_iload_n (pc := 22) (i := 1) E dX8_note_22 rfl rfl ?_
      refine nz_aload_n (pc := 23) (i := 0) E dX8_note_23 rfl rfl ?_
      refine nz_getR (pc := 24) (c := 0) (kf := 7) E rfl rfl (nz_upT nz_uX8) (by decide) (List.mem_cons_of_mem _ nz_w683) rfl rfl dX8_note_24 ?_
      refine nz_iload_n (pc := 27) (i := 1) E dX8_note_27 rfl rfl ?_
      refine nz_bipush (pc := 28) (v := 61) E dX8_note_28 (by decide) ?_
      refine nz_iadd (pc := 30) E dX8_note_30 ?_
      obtain ⟨h13, hf⟩ := nz_chk_t hf
      refine nz_iald (pc := 31) (c := 5) E rfl h13 dX8_note_31 ?_
      obtain ⟨h14, hf⟩ := nz_chk_t hf
      refine nz_iast (pc := 32) (c := 5) E rfl h14 dX8_note_32 ?_
      refine nz_iinc (pc := 33) (i := 1) (w := 1) E dX8_note_33 rfl (by decide) (by decide) rfl ?_
      refine nz_goto (pc := 36) (tgt := 11) E dX8_note_36 (by decide) ?_
      refine nz_weak (lv' := [(0, .ref (q 0)), (1, .int _)]) ⟨rfl, rfl, trivial⟩ ?_
      exact ih _ _ _ hf hK
set_option maxHeartbeats 4000000 in
set_option maxRecDepth 20000 in
theorem k_X8_note {l : Launch} {w : nz_O} {q : Nat → Nat} (x : nz_S) (o : Unit × nz_S) (hf : f_X8_note x = some o) : nz_MV l yX8_note (nz_T yX8_note cX8_note 2 (none)) (nz_R 0 0) w q nz_tM [.ref (q 0)] x o := by
  refine nz_enterV (by decide) rfl (Nat.le_of_ble_eq_true rfl) rfl rfl ?_
  intro κ E hw hlq hR
  subst hw; subst hlq
  unfold f_X8_note at hf
  refine nz_weak (lv' := [(0, .ref (q 0))]) ⟨rfl, trivial⟩ ?_
  refine nz_aload_n (pc := 0) (i := 0) E dX8_note_0 rfl rfl ?_
  refine nz_getI (pc := 1) (c := 0) (kf := 8) E rfl rfl (nz_upT nz_uX8) (by decide) (List.mem_cons_of_mem _ nz_w684) rfl rfl dX8_note_1 ?_
  refine nz_bipush (pc := 4) (v := 14) E dX8_note_4 (by decide) ?_
  refine nz_icmp_ne (pc := 6) (tgt := 49) E dX8_note_6 (by decide) (fun h1 => ?_) (fun h1 => ?_)
  · have hf := nz_ite_f hf h1
    refine nz_iconst (pc := 49) (v := 0) E dX8_note_49 (by decide) ?_
    refine nz_istore_n (pc := 50) (i := 1) E dX8_note_50 rfl (by decide) rfl ?_
    refine nz_weak (lv' := [(0, .ref (q 0)), (1, .int _)]) ⟨rfl, rfl, trivial⟩ ?_
    refine w_X8_note_51 E hR _ _ _ _ hf (fun u9 x8 hf => ?_)
    refine nz_aload_n (pc := 83) (i := 0) E dX8_note_83 rfl rfl ?_
    refine nz_dup (pc := 84) E dX8_note_84 rfl ?_
    refine nz_getI (pc := 85) (c := 0) (kf := 8) E rfl rfl (nz_upT nz_uX8) (by decide) (List.mem_cons_of_mem _ nz_w684) rfl rfl dX8_note_85 ?_
    refine nz_iconst (pc := 88) (v := 1) E dX8_note_88 (by decide) ?_
    refine nz_iadd (pc := 89) E dX8_note_89 ?_
    refine nz_putI (pc := 90) (c := 0) (kf := 8) E rfl rfl (nz_upT nz_uX8) (by decide) (List.mem_cons_of_mem _ nz_w684) rfl tyX8 tyX8_ok nmX8 rfl (tyX8_ok 8 (by decide)) rfl dX8_note_90 ?_
    exact nz_vret (pc := 93) E hR hf dX8_note_93
  · have hf := nz_ite_t hf h1
    refine nz_iconst (pc := 9) (v := 0) E dX8_note_9 (by decide) ?_
    refine nz_istore_n (pc := 10) (i := 1) E dX8_note_10 rfl (by decide) rfl ?_
    refine nz_weak (lv' := [(0, .ref (q 0)), (1, .int _)]) ⟨rfl, rfl, trivial⟩ ?_
    refine w_X8_note_11 E hR _ _ _ _ hf (fun u18 x17 hf => ?_)
    refine nz_aload_n (pc := 39) (i := 0) E dX8_note_39 rfl rfl ?_
    refine nz_dup (pc := 40) E dX8_note_40 rfl ?_
    refine nz_getI (pc := 41) (c := 0) (kf := 8) E rfl rfl (nz_upT nz_uX8) (by decide) (List.mem_cons_of_mem _ nz_w684) rfl rfl dX8_note_41 ?_
    refine nz_iconst (pc := 44) (v := 1) E dX8_note_44 (by decide) ?_
    refine nz_isub (pc := 45) E dX8_note_45 ?_
    refine nz_putI (pc := 46) (c := 0) (kf := 8) E rfl rfl (nz_upT nz_uX8) (by decide) (List.mem_cons_of_mem _ nz_w684) rfl tyX8 tyX8_ok nmX8 rfl (tyX8_ok 8 (by decide)) rfl dX8_note_46 ?_
    refine nz_iconst (pc := 49) (v := 0) E dX8_note_49 (by decide) ?_
    refine nz_istore_n (pc := 50) (i := 1) E dX8_note_50 rfl (by decide) rfl ?_
    refine nz_weak (lv' := [(0, .ref (q 0)), (1, .int _)]) ⟨rfl, rfl, trivial⟩ ?_
    refine w_X8_note_51 E hR _ _ _ _ hf (fun u21 x20 hf => ?_)
    refine nz_aload_n (pc := 83) (i := 0) E dX8_note_83 rfl rfl ?_
    refine nz_dup (pc := 84) E dX8_note_84 rfl ?_
    refine nz_getI (pc := 85) (c := 0) (kf := 8) E rfl rfl (nz_upT nz_uX8) (by decide) (List.mem_cons_of_mem _ nz_w684) rfl rfl dX8_note_85 ?_
    refine nz_iconst (pc := 88) (v := 1) E dX8_note_88 (by decide) ?_
    refine nz_iadd (pc := 89) E dX8_note_89 ?_
    refine nz_putI (pc := 90) (c := 0) (kf := 8) E rfl rfl (nz_upT nz_uX8) (by decide) (List.mem_cons_of_mem _ nz_w684) rfl tyX8 tyX8_ok nmX8 rfl (tyX8_ok 8 (by decide)) rfl dX8_note_90 ?_
    exact nz_vret (pc := 93) E hR hf dX8_note_93
def f_X8_goAdd (p : Nat) (a0 : Int32) (a1 : Int32) (x : nz_S) : Option (Unit × nz_S) :=
  let v1 : Int32 := ((13 : Int32) + a0)
  nz_chk (nz_in v1 61) <|
  let v3 : Int32 := (((25 : Int32) + ((3 : Int32) * a0)) + (x.1 p (v1).toNatClampNeg))
  nz_chk (nz_in v3 61) <|
  let x5 : nz_S := nz_put x p (v3).toNatClampNeg a1
  let v6 : Int32 := ((13 : Int32) + a0)
  nz_chk (nz_in v6 61) <|
  nz_chk (nz_in v6 61) <|
  let x9 : nz_S := nz_put x5 p (v6).toNatClampNeg ((x5.1 p (v6).toNatClampNeg) + (1 : Int32))
  some ((), x9)
theorem ds_X8_goAdd : nz_dsc yX8_goAdd 3 := by unfold nz_dsc; decide +kernel
set_option maxHeartbeats 4000000 in
set_option maxRecDepth 20000 in
theorem k_X8_goAdd {l : Launch} {w : nz_O} {q : Nat → Nat} (p : Nat) (hp : nz_isP p) (a0 : Int32) (a1 : Int32) (x : nz_S) (o : Unit × nz_S) (hf : f_X8_goAdd p a0 a1 x = some o) : nz_MV l yX8_goAdd (nz_T yX8_goAdd cX8_goAdd 3 (none)) (nz_R 0 0) w q nz_tM [.ref (q p), .int a0, .int a1] x o := by
  refine nz_enterV (by decide) rfl (Nat.le_of_ble_eq_true rfl) rfl rfl ?_
  intro κ E hw hlq hR
  subst hw; subst hlq
  unfold f_X8_goAdd at hf
  refine nz_weak (lv' := [(0, .ref (q p)), (1, .int a0), (2, .int a1)]) ⟨rfl, rfl, rfl, trivial⟩ ?_
  refine nz_aload_n (pc := 0) (i := 0) E dX8_goAdd_0 rfl rfl ?_
  refine nz_bipush (pc := 1) (v := 25) E dX8_goAdd_1 (by decide) ?_
  refine nz_iconst (pc := 3) (v := 3) E dX8_goAdd_3 (by decide) ?_
  refine nz_iload_n (pc := 4) (i := 1) E dX8_goAdd_4 rfl rfl ?_
  refine nz_imul (pc := 5) E dX8_goAdd_5 ?_
  refine nz_iadd (pc := 6) E dX8_goAdd_6 ?_
  refine nz_aload_n (pc := 7) (i := 0) E dX8_goAdd_7 rfl rfl ?_
  refine nz_bipush (pc := 8) (v := 13) E dX8_goAdd_8 (by decide) ?_
  refine nz_iload_n (pc := 10) (i := 1) E dX8_goAdd_10 rfl rfl ?_
  refine nz_iadd (pc := 11) E dX8_goAdd_11 ?_
  obtain ⟨h2, hf⟩ := nz_chk_t hf
  refine nz_iald (pc := 12) (c := p) E hp h2 dX8_goAdd_12 ?_
  refine nz_iadd (pc := 13) E dX8_goAdd_13 ?_
  refine nz_iload_n (pc := 14) (i := 2) E dX8_goAdd_14 rfl rfl ?_
  obtain ⟨h4, hf⟩ := nz_chk_t hf
  refine nz_iast (pc := 15) (c := p) E hp h4 dX8_goAdd_15 ?_
  refine nz_aload_n (pc := 16) (i := 0) E dX8_goAdd_16 rfl rfl ?_
  refine nz_bipush (pc := 17) (v := 13) E dX8_goAdd_17 (by decide) ?_
  refine nz_iload_n (pc := 19) (i := 1) E dX8_goAdd_19 rfl rfl ?_
  refine nz_iadd (pc := 20) E dX8_goAdd_20 ?_
  refine nz_dup2 (pc := 21) E dX8_goAdd_21 rfl rfl ?_
  obtain ⟨h7, hf⟩ := nz_chk_t hf
  refine nz_iald (pc := 22) (c := p) E hp h7 dX8_goAdd_22 ?_
  refine nz_iconst (pc := 23) (v := 1) E dX8_goAdd_23 (by decide) ?_
  refine nz_iadd (pc := 24) E dX8_goAdd_24 ?_
  obtain ⟨h8, hf⟩ := nz_chk_t hf
  refine nz_iast (pc := 25) (c := p) E hp h8 dX8_goAdd_25 ?_
  exact nz_vret (pc := 26) E hR hf dX8_goAdd_26
def f_X8_goCut_27 (p : Nat) (c1 : Int32) (c3 : Int32) (c4 : Int32) : Nat → Int32 → nz_S → (Int32 → nz_S → Option (Int32 × nz_S)) → Option (Int32 × nz_S)
  | 0, _, _, _ => none
  | fu + 1, w5, x, K =>
  let v9 : Int32 := ((13 : Int32) + c1)
  nz_chk (nz_in v9 61) <|
  if (x.1 p (v9).toNatClampNeg) ≤ w5 then
    K w5 x
  else
    let v12 : Int32 := ((c3 + w5) + (1 : Int32))
    nz_chk (nz_in v12 61) <|
    let v14 : Int32 := (c3 + w5)
    nz_chk (nz_in v14 61) <|
    let x16 : nz_S := nz_put x p (v14).toNatClampNeg (x.1 p (v12).toNatClampNeg)
    let v17 : Int32 := w5 + 1
    f_X8_goCut_27 p c1 c3 c4 fu v17 x16 K
def f_X8_goCut (p : Nat) (a0 : Int32) (a1 : Int32) (x : nz_S) : Option (Int32 × nz_S) :=
  let v1 : Int32 := ((25 : Int32) + ((3 : Int32) * a0))
  let v2 : Int32 := (v1 + a1)
  nz_chk (nz_in v2 61) <|
  let v4 : Int32 := (x.1 p (v2).toNatClampNeg)
  let v5 : Int32 := ((13 : Int32) + a0)
  nz_chk (nz_in v5 61) <|
  nz_chk (nz_in v5 61) <|
  let x8 : nz_S := nz_put x p (v5).toNatClampNeg ((x.1 p (v5).toNatClampNeg) - (1 : Int32))
  f_X8_goCut_27 p a0 v1 v4 nz_F a1 x8 fun u19 x18 =>
    some (v4, x18)
theorem ds_X8_goCut : nz_dsc yX8_goCut 3 := by unfold nz_dsc; decide +kernel
set_option maxHeartbeats 4000000 in
set_option maxRecDepth 20000 in
theorem w_X8_goCut_27 {κ : nz_C} {q : Nat → Nat} {o : Int32 × nz_S} (p : Nat) (hp : nz_isP p) (c1 : Int32) (c3 : Int32) (c4 : Int32) (E : nz_Env κ q nz_tM 6 cX8_goCut RX8 (nz_T yX8_goCut cX8_goCut 6 (some .int)) (nz_R 0 0)) (hR : nz_RI κ q nz_tM .int o) : ∀ (fu : Nat) (w5 : Int32) (x : nz_S) (K : Int32 → nz_S → Option (Int32 × nz_S)), f_X8_goCut_27 p c1 c3 c4 fu w5 x K = some o → (∀ (w5 : Int32) (x : nz_S), K w5 x = some o → nz_St κ q nz_tM 6 58 [(0, .ref (q p)), (1, .int c1), (3, .int c3), (4, .int c4), (5, .int w5)] [] x) → nz_St κ q nz_tM 6 27 [(0, .ref (q p)), (1, .int c1), (3, .int c3), (4, .int c4), (5, .int w5)] [] x := by
  intro fu
  induction fu with
  | zero => intro w5 x K hf; rw [f_X8_goCut_27] at hf; cases hf
  | succ fu ih =>
    intro w5 x K hf hK
    rw [f_X8_goCut_27] at hf
    refine nz_iload (pc := 27) (i := 5) E dX8_goCut_27 rfl ?_
    refine nz_aload_n (pc := 29) (i := 0) E dX8_goCut_29 rfl rfl ?_
    refine nz_bipush (pc := 30) (v := 13) E dX8_goCut_30 (by decide) ?_
    refine nz_iload_n (pc := 32) (i := 1) E dX8_goCut_32 rfl rfl ?_
    refine nz_iadd (pc := 33) E dX8_goCut_33 ?_
    obtain ⟨h10, hf⟩ := nz_chk_t hf
    refine nz_iald (pc := 34) (c := p) E hp h10 dX8_goCut_34 ?_
    refine nz_icmp_ge (pc := 35) (tgt := 58) E dX8_goCut_35 (by decide) (fun h11 => ?_) (fun h11 => ?_)
    · have hf := nz_ite_t hf h11
      refine nz_weak (lv' := [(0, .ref (q p)), (1, .int _), (3, .int _), (4, .int _), (5, .int _)]) ⟨rfl, rfl, rfl, rfl, rfl, trivial⟩ ?_
      exact hK _ _ hf
    · have hf := nz_ite_f hf h11
      refine nz_aload_n (pc := 38) (i := 0) E dX8_goCut_38 rfl rfl ?_
      refine nz_iload_n (pc := 39) (i := 3) E dX8_goCut_39 rfl rfl ?_
      refine nz_iload (pc := 40) (i := 5) E dX8_goCut_40 rfl ?_
      refine nz_iadd (pc := 42) E dX8_goCut_42 ?_
      refine nz_aload_n (pc := 43) (i := 0) E dX8_goCut_43 rfl rfl ?_
      refine nz_iload_n (pc := 44) (i := 3) E dX8_goCut_44 rfl rfl ?_
      refine nz_iload (pc := 45) (i := 5) E dX8_goCut_45 rfl ?_
      refine nz_iadd (pc := 47) E dX8_goCut_47 ?_
      refine nz_iconst (pc := 48) (v := 1) E dX8_goCut_48 (by decide) ?_
      refine nz_iadd (pc := 49) E dX8_goCut_49 ?_
      obtain ⟨h13, hf⟩ := nz_chk_t hf
      refine nz_iald (pc := 50) (c := p) E hp h13 dX8_goCut_50 ?_
      obtain ⟨h15, hf⟩ := nz_chk_t hf
      refine nz_iast (pc := 51) (c := p) E hp h15 dX8_goCut_51 ?_
      refine nz_iinc (pc := 52) (i := 5) (w := 1) E dX8_goCut_52 rfl (by decide) (by decide) rfl ?_
      refine nz_goto (pc := 55) (tgt := 27) E dX8_goCut_55 (by decide) ?_
      refine nz_weak (lv' := [(0, .ref (q p)), (1, .int _), (3, .int _), (4, .int _), (5, .int _)]) ⟨rfl, rfl, rfl, rfl, rfl, trivial⟩ ?_
      exact ih _ _ _ hf hK
set_option maxHeartbeats 4000000 in
set_option maxRecDepth 20000 in
theorem k_X8_goCut {l : Launch} {w : nz_O} {q : Nat → Nat} (p : Nat) (hp : nz_isP p) (a0 : Int32) (a1 : Int32) (x : nz_S) (o : Int32 × nz_S) (hf : f_X8_goCut p a0 a1 x = some o) : nz_MI l yX8_goCut (nz_T yX8_goCut cX8_goCut 6 (some .int)) (nz_R 0 0) w q nz_tM [.ref (q p), .int a0, .int a1] x o := by
  refine nz_enterI (by decide) rfl (Nat.le_of_ble_eq_true rfl) rfl rfl ?_
  intro κ E hw hlq hR
  subst hw; subst hlq
  unfold f_X8_goCut at hf
  refine nz_weak (lv' := [(0, .ref (q p)), (1, .int a0), (2, .int a1)]) ⟨rfl, rfl, rfl, trivial⟩ ?_
  refine nz_bipush (pc := 0) (v := 25) E dX8_goCut_0 (by decide) ?_
  refine nz_iconst (pc := 2) (v := 3) E dX8_goCut_2 (by decide) ?_
  refine nz_iload_n (pc := 3) (i := 1) E dX8_goCut_3 rfl rfl ?_
  refine nz_imul (pc := 4) E dX8_goCut_4 ?_
  refine nz_iadd (pc := 5) E dX8_goCut_5 ?_
  refine nz_istore_n (pc := 6) (i := 3) E dX8_goCut_6 rfl (by decide) rfl ?_
  refine nz_aload_n (pc := 7) (i := 0) E dX8_goCut_7 rfl rfl ?_
  refine nz_iload_n (pc := 8) (i := 3) E dX8_goCut_8 rfl rfl ?_
  refine nz_iload_n (pc := 9) (i := 2) E dX8_goCut_9 rfl rfl ?_
  refine nz_iadd (pc := 10) E dX8_goCut_10 ?_
  obtain ⟨h3, hf⟩ := nz_chk_t hf
  refine nz_iald (pc := 11) (c := p) E hp h3 dX8_goCut_11 ?_
  refine nz_istore (pc := 12) (i := 4) E dX8_goCut_12 (by decide) rfl ?_
  refine nz_aload_n (pc := 14) (i := 0) E dX8_goCut_14 rfl rfl ?_
  refine nz_bipush (pc := 15) (v := 13) E dX8_goCut_15 (by decide) ?_
  refine nz_iload_n (pc := 17) (i := 1) E dX8_goCut_17 rfl rfl ?_
  refine nz_iadd (pc := 18) E dX8_goCut_18 ?_
  refine nz_dup2 (pc := 19) E dX8_goCut_19 rfl rfl ?_
  obtain ⟨h6, hf⟩ := nz_chk_t hf
  refine nz_iald (pc := 20) (c := p) E hp h6 dX8_goCut_20 ?_
  refine nz_iconst (pc := 21) (v := 1) E dX8_goCut_21 (by decide) ?_
  refine nz_isub (pc := 22) E dX8_goCut_22 ?_
  obtain ⟨h7, hf⟩ := nz_chk_t hf
  refine nz_iast (pc := 23) (c := p) E hp h7 dX8_goCut_23 ?_
  refine nz_iload_n (pc := 24) (i := 2) E dX8_goCut_24 rfl rfl ?_
  refine nz_istore (pc := 25) (i := 5) E dX8_goCut_25 (by decide) rfl ?_
  refine nz_weak (lv' := [(0, .ref (q p)), (1, .int _), (3, .int _), (4, .int _), (5, .int _)]) ⟨rfl, rfl, rfl, rfl, rfl, trivial⟩ ?_
  refine w_X8_goCut_27 p hp _ _ _ E hR _ _ _ _ hf (fun u19 x18 hf => ?_)
  refine nz_iload (pc := 58) (i := 4) E dX8_goCut_58 rfl ?_
  exact nz_iret (pc := 60) E hR rfl hf dX8_goCut_60
def f_X8_goSplit_29 (p : Nat) (c1 : Int32) (c2 : Int32) (c3 : Int32) : Nat → Int32 → nz_S → (Int32 → nz_S → Option (Int32 × nz_S)) → Option (Int32 × nz_S)
  | 0, _, _, _ => none
  | fu + 1, w4, x, K =>
  if (3 : Int32) ≤ w4 then
    K w4 x
  else
    let v14 : Int32 := (((25 : Int32) + ((3 : Int32) * c2)) + w4)
    nz_chk (nz_in v14 61) <|
    let v16 : Int32 := (((25 : Int32) + ((3 : Int32) * c3)) + w4)
    nz_chk (nz_in v16 61) <|
    let x18 : nz_S := nz_put x p (v16).toNatClampNeg (x.1 p (v14).toNatClampNeg)
    let v19 : Int32 := w4 + 1
    f_X8_goSplit_29 p c1 c2 c3 fu v19 x18 K
def f_X8_goSplit_66 (p : Nat) (c1 : Int32) (c2 : Int32) (c3 : Int32) : Nat → Int32 → nz_S → (Int32 → nz_S → Option (Int32 × nz_S)) → Option (Int32 × nz_S)
  | 0, _, _, _ => none
  | fu + 1, w4, x, K =>
  let v22 : Int32 := ((13 : Int32) + c1)
  nz_chk (nz_in v22 61) <|
  if (x.1 p (v22).toNatClampNeg) ≤ w4 then
    K w4 x
  else
    let v25 : Int32 := (((25 : Int32) + ((3 : Int32) * c1)) + w4)
    nz_chk (nz_in v25 61) <|
    if (x.1 p (v25).toNatClampNeg) = c2 then
      nz_chk (nz_in v25 61) <|
      let x33 : nz_S := nz_put x p (v25).toNatClampNeg c3
      let v34 : Int32 := w4 + 1
      f_X8_goSplit_66 p c1 c2 c3 fu v34 x33 K
    else
      nz_chk (nz_in v25 61) <|
      nz_chk (nz_in v25 61) <|
      let x30 : nz_S := nz_put x p (v25).toNatClampNeg (x.1 p (v25).toNatClampNeg)
      let v31 : Int32 := w4 + 1
      f_X8_goSplit_66 p c1 c2 c3 fu v31 x30 K
def f_X8_goSplit (p : Nat) (a0 : Int32) (a1 : Int32) (x : nz_S) : Option (Int32 × nz_S) :=
  nz_chk (nz_in (0 : Int32) 61) <|
  let v2 : Int32 := (x.1 p ((0 : Int32)).toNatClampNeg)
  let v3 : Int32 := ((1 : Int32) + a1)
  nz_chk (nz_in v3 61) <|
  let v5 : Int32 := ((1 : Int32) + v2)
  nz_chk (nz_in v5 61) <|
  let x7 : nz_S := nz_put x p (v5).toNatClampNeg (x.1 p (v3).toNatClampNeg)
  let v8 : Int32 := ((13 : Int32) + a1)
  nz_chk (nz_in v8 61) <|
  let v10 : Int32 := ((13 : Int32) + v2)
  nz_chk (nz_in v10 61) <|
  let x12 : nz_S := nz_put x7 p (v10).toNatClampNeg (x7.1 p (v8).toNatClampNeg)
  f_X8_goSplit_29 p a0 a1 v2 nz_F (0 : Int32) x12 fun u21 x20 =>
    f_X8_goSplit_66 p a0 a1 v2 nz_F (0 : Int32) x20 fun u36 x35 =>
      nz_chk (nz_in (0 : Int32) 61) <|
      nz_chk (nz_in (0 : Int32) 61) <|
      let x39 : nz_S := nz_put x35 p ((0 : Int32)).toNatClampNeg ((x35.1 p ((0 : Int32)).toNatClampNeg) + (1 : Int32))
      some (v2, x39)
theorem ds_X8_goSplit : nz_dsc yX8_goSplit 3 := by unfold nz_dsc; decide +kernel
set_option maxHeartbeats 4000000 in
set_option maxRecDepth 20000 in
theorem w_X8_goSplit_29 {κ : nz_C} {q : Nat → Nat} {o : Int32 × nz_S} (p : Nat) (hp : nz_isP p) (c1 : Int32) (c2 : Int32) (c3 : Int32) (E : nz_Env κ q nz_tM 6 cX8_goSplit RX8 (nz_T yX8_goSplit cX8_goSplit 6 (some .int)) (nz_R 0 0)) (hR : nz_RI κ q nz_tM .int o) : ∀ (fu : Nat) (w4 : Int32) (x : nz_S) (K : Int32 → nz_S → Option (Int32 × nz_S)), f_X8_goSplit_29 p c1 c2 c3 fu w4 x K = some o → (∀ (w4 : Int32) (x : nz_S), K w4 x = some o → nz_St κ q nz_tM 6 63 [(0, .ref (q p)), (1, .int c1), (2, .int c2), (3, .int c3), (4, .int w4)] [] x) → nz_St κ q nz_tM 6 29 [(0, .ref (q p)), (1, .int c1), (2, .int c2), (3, .int c3), (4, .int w4)] [] x := by
  intro fu
  induction fu with
  | zero => intro w4 x K hf; rw [f_X8_goSplit_29] at hf; cases hf
  | succ fu ih =>
    intro w4 x K hf hK
    rw [f_X8_goSplit_29] at hf
    refine nz_iload (pc := 29) (i := 4) E dX8_goSplit_29 rfl ?_
    refine nz_iconst (pc := 31) (v := 3) E dX8_goSplit_31 (by decide) ?_
    refine nz_icmp_ge (pc := 32) (tgt := 63) E dX8_goSplit_32 (by decide) (fun h13 => ?_) (fun h13 => ?_)
    · have hf := nz_ite_t hf h13
      refine nz_weak (lv' := [(0, .ref (q p)), (1, .int _), (2, .int _), (3, .int _), (4, .int _)]) ⟨rfl, rfl, rfl, rfl, rfl, trivial⟩ ?_
      exact hK _ _ hf
    · have hf := nz_ite_f hf h13
      refine nz_aload_n (pc := 35) (i := 0) E dX8_goSplit_35 rfl rfl ?_
      refine nz_bipush (pc := 36) (v := 25) E dX8_goSplit_36 (by decide) ?_
      refine nz_iconst (pc := 38) (v := 3) E dX8_goSplit_38 (by decide) ?_
      refine nz_iload_n (pc := 39) (i := 3) E dX8_goSplit_39 rfl rfl ?_
      refine nz_imul (pc := 40) E dX8_goSplit_40 ?_
      refine nz_iadd (pc := 41) E dX8_goSplit_41 ?_
      refine nz_iload (pc := 42) (i := 4) E dX8_goSplit_42 rfl ?_
      refine nz_iadd (pc := 44) E dX8_goSplit_44 ?_
      refine nz_aload_n (pc := 45) (i := 0) E dX8_goSplit_45 rfl rfl ?_
      refine nz_bipush (pc := 46) (v := 25) E dX8_goSplit_46 (by decide) ?_
      refine nz_iconst (pc := 48) (v := 3) E dX8_goSplit_48 (by decide) ?_
      refine nz_iload_n (pc := 49) (i := 2) E dX8_goSplit_49 rfl rfl ?_
      refine nz_imul (pc := 50) E dX8_goSplit_50 ?_
      refine nz_iadd (pc := 51) E dX8_goSplit_51 ?_
      refine nz_iload (pc := 52) (i := 4) E dX8_goSplit_52 rfl ?_
      refine nz_iadd (pc := 54) E dX8_goSplit_54 ?_
      obtain ⟨h15, hf⟩ := nz_chk_t hf
      refine nz_iald (pc := 55) (c := p) E hp h15 dX8_goSplit_55 ?_
      obtain ⟨h17, hf⟩ := nz_chk_t hf
      refine nz_iast (pc := 56) (c := p) E hp h17 dX8_goSplit_56 ?_
      refine nz_iinc (pc := 57) (i := 4) (w := 1) E dX8_goSplit_57 rfl (by decide) (by decide) rfl ?_
      refine nz_goto (pc := 60) (tgt := 29) E dX8_goSplit_60 (by decide) ?_
      refine nz_weak (lv' := [(0, .ref (q p)), (1, .int _), (2, .int _), (3, .int _), (4, .int _)]) ⟨rfl, rfl, rfl, rfl, rfl, trivial⟩ ?_
      exact ih _ _ _ hf hK
set_option maxHeartbeats 4000000 in
set_option maxRecDepth 20000 in
theorem w_X8_goSplit_66 {κ : nz_C} {q : Nat → Nat} {o : Int32 × nz_S} (p : Nat) (hp : nz_isP p) (c1 : Int32) (c2 : Int32) (c3 : Int32) (E : nz_Env κ q nz_tM 6 cX8_goSplit RX8 (nz_T yX8_goSplit cX8_goSplit 6 (some .int)) (nz_R 0 0)) (hR : nz_RI κ q nz_tM .int o) : ∀ (fu : Nat) (w4 : Int32) (x : nz_S) (K : Int32 → nz_S → Option (Int32 × nz_S)), f_X8_goSplit_66 p c1 c2 c3 fu w4 x K = some o → (∀ (w4 : Int32) (x : nz_S), K w4 x = some o → nz_St κ q nz_tM 6 114 [(0, .ref (q p)), (1, .int c1), (2, .int c2), (3, .int c3), (4, .int w4)] [] x) → nz_St κ q nz_tM 6 66 [(0, .ref (q p)), (1, .int c1), (2, .int c2), (3, .int c3), (4, .int w4)] [] x := by
  intro fu
  induction fu with
  | zero => intro w4 x K hf; rw [f_X8_goSplit_66] at hf; cases hf
  | succ fu ih =>
    intro w4 x K hf hK
    rw [f_X8_goSplit_66] at hf
    refine nz_iload (pc := 66) (i := 4) E dX8_goSplit_66 rfl ?_
    refine nz_aload_n (pc := 68) (i := 0) E dX8_goSplit_68 rfl rfl ?_
    refine nz_bipush (pc := 69) (v := 13) E dX8_goSplit_69 (by decide) ?_
    refine nz_iload_n (pc := 71) (i := 1) E dX8_goSplit_71 rfl rfl ?_
    refine nz_iadd (pc := 72) E dX8_goSplit_72 ?_
    obtain ⟨h23, hf⟩ := nz_chk_t hf
    refine nz_iald (pc := 73) (c := p) E hp h23 dX8_goSplit_73 ?_
    refine nz_icmp_ge (pc := 74) (tgt := 114) E dX8_goSplit_74 (by decide) (fun h24 => ?_) (fun h24 => ?_)
    · have hf := nz_ite_t hf h24
      refine nz_weak (lv' := [(0, .ref (q p)), (1, .int _), (2, .int _), (3, .int _), (4, .int _)]) ⟨rfl, rfl, rfl, rfl, rfl, trivial⟩ ?_
      exact hK _ _ hf
    · have hf := nz_ite_f hf h24
      refine nz_bipush (pc := 77) (v := 25) E dX8_goSplit_77 (by decide) ?_
      refine nz_iconst (pc := 79) (v := 3) E dX8_goSplit_79 (by decide) ?_
      refine nz_iload_n (pc := 80) (i := 1) E dX8_goSplit_80 rfl rfl ?_
      refine nz_imul (pc := 81) E dX8_goSplit_81 ?_
      refine nz_iadd (pc := 82) E dX8_goSplit_82 ?_
      refine nz_iload (pc := 83) (i := 4) E dX8_goSplit_83 rfl ?_
      refine nz_iadd (pc := 85) E dX8_goSplit_85 ?_
      refine nz_istore (pc := 86) (i := 5) E dX8_goSplit_86 (by decide) rfl ?_
      refine nz_aload_n (pc := 88) (i := 0) E dX8_goSplit_88 rfl rfl ?_
      refine nz_iload (pc := 89) (i := 5) E dX8_goSplit_89 rfl ?_
      refine nz_aload_n (pc := 91) (i := 0) E dX8_goSplit_91 rfl rfl ?_
      refine nz_iload (pc := 92) (i := 5) E dX8_goSplit_92 rfl ?_
      obtain ⟨h26, hf⟩ := nz_chk_t hf
      refine nz_iald (pc := 94) (c := p) E hp h26 dX8_goSplit_94 ?_
      refine nz_iload_n (pc := 95) (i := 2) E dX8_goSplit_95 rfl rfl ?_
      refine nz_icmp_ne (pc := 96) (tgt := 103) E dX8_goSplit_96 (by decide) (fun h27 => ?_) (fun h27 => ?_)
      · have hf := nz_ite_f hf h27
        refine nz_aload_n (pc := 103) (i := 0) E dX8_goSplit_103 rfl rfl ?_
        refine nz_iload (pc := 104) (i := 5) E dX8_goSplit_104 rfl ?_
        obtain ⟨h28, hf⟩ := nz_chk_t hf
        refine nz_iald (pc := 106) (c := p) E hp h28 dX8_goSplit_106 ?_
        obtain ⟨h29, hf⟩ := nz_chk_t hf
        refine nz_iast (pc := 107) (c := p) E hp h29 dX8_goSplit_107 ?_
        refine nz_iinc (pc := 108) (i := 4) (w := 1) E dX8_goSplit_108 rfl (by decide) (by decide) rfl ?_
        refine nz_goto (pc := 111) (tgt := 66) E dX8_goSplit_111 (by decide) ?_
        refine nz_weak (lv' := [(0, .ref (q p)), (1, .int _), (2, .int _), (3, .int _), (4, .int _)]) ⟨rfl, rfl, rfl, rfl, rfl, trivial⟩ ?_
        exact ih _ _ _ hf hK
      · have hf := nz_ite_t hf h27
        refine nz_iload_n (pc := 99) (i := 3) E dX8_goSplit_99 rfl rfl ?_
        refine nz_goto (pc := 100) (tgt := 107) E dX8_goSplit_100 (by decide) ?_
        obtain ⟨h32, hf⟩ := nz_chk_t hf
        refine nz_iast (pc := 107) (c := p) E hp h32 dX8_goSplit_107 ?_
        refine nz_iinc (pc := 108) (i := 4) (w := 1) E dX8_goSplit_108 rfl (by decide) (by decide) rfl ?_
        refine nz_goto (pc := 111) (tgt := 66) E dX8_goSplit_111 (by decide) ?_
        refine nz_weak (lv' := [(0, .ref (q p)), (1, .int _), (2, .int _), (3, .int _), (4, .int _)]) ⟨rfl, rfl, rfl, rfl, rfl, trivial⟩ ?_
        exact ih _ _ _ hf hK
set_option maxHeartbeats 4000000 in
set_option maxRecDepth 20000 in
theorem k_X8_goSplit {l : Launch} {w : nz_O} {q : Nat → Nat} (p : Nat) (hp : nz_isP p) (a0 : Int32) (a1 : Int32) (x : nz_S) (o : Int32 × nz_S) (hf : f_X8_goSplit p a0 a1 x = some o) : nz_MI l yX8_goSplit (nz_T yX8_goSplit cX8_goSplit 6 (some .int)) (nz_R 0 0) w q nz_tM [.ref (q p), .int a0, .int a1] x o := by
  refine nz_enterI (by decide) rfl (Nat.le_of_ble_eq_true rfl) rfl rfl ?_
  intro κ E hw hlq hR
  subst hw; subst hlq
  unfold f_X8_goSplit at hf
  refine nz_weak (lv' := [(0, .ref (q p)), (1, .int a0), (2, .int a1)]) ⟨rfl, rfl, rfl, trivial⟩ ?_
  refine nz_aload_n (pc := 0) (i := 0) E dX8_goSplit_0 rfl rfl ?_
  refine nz_iconst (pc := 1) (v := 0) E dX8_goSplit_1 (by decide) ?_
  obtain ⟨h1, hf⟩ := nz_chk_t hf
  refine nz_iald (pc := 2) (c := p) E hp h1 dX8_goSplit_2 ?_
  refine nz_istore_n (pc := 3) (i := 3) E dX8_goSplit_3 rfl (by decide) rfl ?_
  refine nz_aload_n (pc := 4) (i := 0) E dX8_goSplit_4 rfl rfl ?_
  refine nz_iconst (pc := 5) (v := 1) E dX8_goSplit_5 (by decide) ?_
  refine nz_iload_n (pc := 6) (i := 3) E dX8_goSplit_6 rfl rfl ?_
  refine nz_iadd (pc := 7) E dX8_goSplit_7 ?_
  refine nz_aload_n (pc := 8) (i := 0) E dX8_goSplit_8 rfl rfl ?_
  refine nz_iconst (pc := 9) (v := 1) E dX8_goSplit_9 (by decide) ?_
  refine nz_iload_n (pc := 10) (i := 2) E dX8_goSplit_10 rfl rfl ?_
  refine nz_iadd (pc := 11) E dX8_goSplit_11 ?_
  obtain ⟨h4, hf⟩ := nz_chk_t hf
  refine nz_iald (pc := 12) (c := p) E hp h4 dX8_goSplit_12 ?_
  obtain ⟨h6, hf⟩ := nz_chk_t hf
  refine nz_iast (pc := 13) (c := p) E hp h6 dX8_goSplit_13 ?_
  refine nz_aload_n (pc := 14) (i := 0) E dX8_goSplit_14 rfl rfl ?_
  refine nz_bipush (pc := 15) (v := 13) E dX8_goSplit_15 (by decide) ?_
  refine nz_iload_n (pc := 17) (i := 3) E dX8_goSplit_17 rfl rfl ?_
  refine nz_iadd (pc := 18) E dX8_goSplit_18 ?_
  refine nz_aload_n (pc := 19) (i := 0) E dX8_goSplit_19 rfl rfl ?_
  refine nz_bipush (pc := 20) (v := 13) E dX8_goSplit_20 (by decide) ?_
  refine nz_iload_n (pc := 22) (i := 2) E dX8_goSplit_22 rfl rfl ?_
  refine nz_iadd (pc := 23) E dX8_goSplit_23 ?_
  obtain ⟨h9, hf⟩ := nz_chk_t hf
  refine nz_iald (pc := 24) (c := p) E hp h9 dX8_goSplit_24 ?_
  obtain ⟨h11, hf⟩ := nz_chk_t hf
  refine nz_iast (pc := 25) (c := p) E hp h11 dX8_goSplit_25 ?_
  refine nz_iconst (pc := 26) (v := 0) E dX8_goSplit_26 (by decide) ?_
  refine nz_istore (pc := 27) (i := 4) E dX8_goSplit_27 (by decide) rfl ?_
  refine nz_weak (lv' := [(0, .ref (q p)), (1, .int _), (2, .int _), (3, .int _), (4, .int _)]) ⟨rfl, rfl, rfl, rfl, rfl, trivial⟩ ?_
  refine w_X8_goSplit_29 p hp _ _ _ E hR _ _ _ _ hf (fun u21 x20 hf => ?_)
  refine nz_iconst (pc := 63) (v := 0) E dX8_goSplit_63 (by decide) ?_
  refine nz_istore (pc := 64) (i := 4) E dX8_goSplit_64 (by decide) rfl ?_
  refine nz_weak (lv' := [(0, .ref (q p)), (1, .int _), (2, .int _), (3, .int _), (4, .int _)]) ⟨rfl, rfl, rfl, rfl, rfl, trivial⟩ ?_
  refine w_X8_goSplit_66 p hp _ _ _ E hR _ _ _ _ hf (fun u36 x35 hf => ?_)
  refine nz_aload_n (pc := 114) (i := 0) E dX8_goSplit_114 rfl rfl ?_
  refine nz_iconst (pc := 115) (v := 0) E dX8_goSplit_115 (by decide) ?_
  refine nz_dup2 (pc := 116) E dX8_goSplit_116 rfl rfl ?_
  obtain ⟨h37, hf⟩ := nz_chk_t hf
  refine nz_iald (pc := 117) (c := p) E hp h37 dX8_goSplit_117 ?_
  refine nz_iconst (pc := 118) (v := 1) E dX8_goSplit_118 (by decide) ?_
  refine nz_iadd (pc := 119) E dX8_goSplit_119 ?_
  obtain ⟨h38, hf⟩ := nz_chk_t hf
  refine nz_iast (pc := 120) (c := p) E hp h38 dX8_goSplit_120 ?_
  refine nz_iload_n (pc := 121) (i := 3) E dX8_goSplit_121 rfl rfl ?_
  exact nz_iret (pc := 122) E hR rfl hf dX8_goSplit_122
def f_X8_add (a0 : Int32) (a1 : Int32) (x : nz_S) : Option (Int32 × nz_S) :=
  let x1 : nz_S := nz_put x 0 0 (0 : Int32)
  nz_bnd (f_X8_noBlock  a0 x1) fun r2 x3 =>
  if r2 = (0 : Int32) then
    nz_bnd (f_X8_noBlock  a1 x3) fun r6 x7 =>
    if r6 = (0 : Int32) then
      let v10 : Int32 := ((13 : Int32) + a0)
      nz_chk (nz_in v10 61) <|
      if (x7.1 3 (v10).toNatClampNeg) = (3 : Int32) then
        some ((-4 : Int32), x7)
      else
        nz_bnd (f_X8_note   x7) fun r13 x14 =>
        nz_bnd (f_X8_goAdd 3 a0 a1 x14) fun r16 x17 =>
        let v19 : Int32 := ((13 : Int32) + a0)
        nz_chk (nz_in v19 61) <|
        some ((x17.1 3 (v19).toNatClampNeg), x17)
    else
      some ((-1 : Int32), x7)
  else
    some ((-1 : Int32), x3)
theorem ds_X8_add : nz_dsc yX8_add 2 := by unfold nz_dsc; decide +kernel
set_option maxHeartbeats 4000000 in
set_option maxRecDepth 20000 in
theorem k_X8_add {l : Launch} {w : nz_O} {q : Nat → Nat} (a0 : Int32) (a1 : Int32) (x : nz_S) (o : Int32 × nz_S) (hf : f_X8_add a0 a1 x = some o) : nz_MI l yX8_add (nz_T yX8_add cX8_add 3 (some .int)) (nz_R 2 46) w q nz_tM [.ref (q 0), .int a0, .int a1] x o := by
  refine nz_enterI (by decide) rfl (Nat.le_of_ble_eq_true rfl) rfl rfl ?_
  intro κ E hw hlq hR
  subst hw; subst hlq
  unfold f_X8_add at hf
  refine nz_weak (lv' := [(0, .ref (q 0)), (1, .int a0), (2, .int a1)]) ⟨rfl, rfl, rfl, trivial⟩ ?_
  refine nz_aload_n (pc := 0) (i := 0) E dX8_add_0 rfl rfl ?_
  refine nz_iconst (pc := 1) (v := 0) E dX8_add_1 (by decide) ?_
  refine nz_putI (pc := 2) (c := 0) (kf := 0) E rfl rfl (nz_upT nz_uX8) (by decide) (List.mem_cons_of_mem _ nz_w676) rfl tyX8 tyX8_ok nmX8 rfl (tyX8_ok 0 (by decide)) rfl dX8_add_2 ?_
  refine nz_aload_n (pc := 5) (i := 0) E dX8_add_5 rfl rfl ?_
  refine nz_iload_n (pc := 6) (i := 1) E dX8_add_6 rfl rfl ?_
  obtain ⟨r2, x3, h4, hf⟩ := nz_bnd_t hf
  refine nz_callVI (pc := 7) (c0 := 0) (As := [.int _]) E rfl rfl (k_X8_noBlock   _ _ _ h4) (nz_cwV E nz_w875 nz_w877 nz_w38 nz_w67 nz_w878 ds_X8_noBlock ⟨Nat.le_of_ble_eq_true rfl, Nat.le_of_ble_eq_true rfl⟩ rfl rfl) rfl rfl (Nat.le_of_ble_eq_true rfl) dX8_add_7 ?_
  refine nz_if_ne (pc := 10) (tgt := 21) E dX8_add_10 (by decide) (fun h5 => ?_) (fun h5 => ?_)
  · have hf := nz_ite_f hf h5
    refine nz_iconst (pc := 21) (v := -1) E dX8_add_21 (by decide) ?_
    exact nz_iret (pc := 22) E hR rfl hf dX8_add_22
  · have hf := nz_ite_t hf h5
    refine nz_aload_n (pc := 13) (i := 0) E dX8_add_13 rfl rfl ?_
    refine nz_iload_n (pc := 14) (i := 2) E dX8_add_14 rfl rfl ?_
    obtain ⟨r6, x7, h8, hf⟩ := nz_bnd_t hf
    refine nz_callVI (pc := 15) (c0 := 0) (As := [.int _]) E rfl rfl (k_X8_noBlock   _ _ _ h8) (nz_cwV E nz_w875 nz_w877 nz_w38 nz_w67 nz_w878 ds_X8_noBlock ⟨Nat.le_of_ble_eq_true rfl, Nat.le_of_ble_eq_true rfl⟩ rfl rfl) rfl rfl (Nat.le_of_ble_eq_true rfl) dX8_add_15 ?_
    refine nz_if_eq (pc := 18) (tgt := 23) E dX8_add_18 (by decide) (fun h9 => ?_) (fun h9 => ?_)
    · have hf := nz_ite_t hf h9
      refine nz_aload_n (pc := 23) (i := 0) E dX8_add_23 rfl rfl ?_
      refine nz_getR (pc := 24) (c := 0) (kf := 5) E rfl rfl (nz_upT nz_uX8) (by decide) (List.mem_cons_of_mem _ nz_w681) rfl rfl dX8_add_24 ?_
      refine nz_bipush (pc := 27) (v := 13) E dX8_add_27 (by decide) ?_
      refine nz_iload_n (pc := 29) (i := 1) E dX8_add_29 rfl rfl ?_
      refine nz_iadd (pc := 30) E dX8_add_30 ?_
      obtain ⟨h11, hf⟩ := nz_chk_t hf
      refine nz_iald (pc := 31) (c := 3) E rfl h11 dX8_add_31 ?_
      refine nz_iconst (pc := 32) (v := 3) E dX8_add_32 (by decide) ?_
      refine nz_icmp_ne (pc := 33) (tgt := 39) E dX8_add_33 (by decide) (fun h12 => ?_) (fun h12 => ?_)
      · have hf := nz_ite_f hf h12
        refine nz_aload_n (pc := 39) (i := 0) E dX8_add_39 rfl rfl ?_
        obtain ⟨r13, x14, h15, hf⟩ := nz_bnd_t hf
        refine nz_callVV (pc := 40) (c0 := 0) (As := []) E rfl rfl (k_X8_note   _ _ h15) (nz_cwV E nz_w904 nz_w906 nz_w42 nz_w67 nz_w907 ds_X8_note ⟨Nat.le_of_ble_eq_true rfl, Nat.le_of_ble_eq_true rfl⟩ rfl rfl) rfl rfl (Nat.le_of_ble_eq_true rfl) dX8_add_40 ?_
        refine nz_aload_n (pc := 43) (i := 0) E dX8_add_43 rfl rfl ?_
        refine nz_getR (pc := 44) (c := 0) (kf := 5) E rfl rfl (nz_upT nz_uX8) (by decide) (List.mem_cons_of_mem _ nz_w681) rfl rfl dX8_add_44 ?_
        refine nz_iload_n (pc := 47) (i := 1) E dX8_add_47 rfl rfl ?_
        refine nz_iload_n (pc := 48) (i := 2) E dX8_add_48 rfl rfl ?_
        obtain ⟨r16, x17, h18, hf⟩ := nz_bnd_t hf
        refine nz_callSV (pc := 49) (As := [.ref (q 3), .int _, .int _]) E (k_X8_goAdd 3 nz_p3 _ _ _ _ h18) (nz_cwS E nz_w908 nz_w909 nz_w67 nz_w910 ds_X8_goAdd ⟨Nat.le_of_ble_eq_true rfl, Nat.le_of_ble_eq_true rfl⟩ rfl rfl) rfl rfl (Nat.le_of_ble_eq_true rfl) dX8_add_49 ?_
        refine nz_aload_n (pc := 52) (i := 0) E dX8_add_52 rfl rfl ?_
        refine nz_getR (pc := 53) (c := 0) (kf := 5) E rfl rfl (nz_upT nz_uX8) (by decide) (List.mem_cons_of_mem _ nz_w681) rfl rfl dX8_add_53 ?_
        refine nz_bipush (pc := 56) (v := 13) E dX8_add_56 (by decide) ?_
        refine nz_iload_n (pc := 58) (i := 1) E dX8_add_58 rfl rfl ?_
        refine nz_iadd (pc := 59) E dX8_add_59 ?_
        obtain ⟨h20, hf⟩ := nz_chk_t hf
        refine nz_iald (pc := 60) (c := 3) E rfl h20 dX8_add_60 ?_
        exact nz_iret (pc := 61) E hR rfl hf dX8_add_61
      · have hf := nz_ite_t hf h12
        refine nz_bipush (pc := 36) (v := -4) E dX8_add_36 (by decide) ?_
        exact nz_iret (pc := 38) E hR rfl hf dX8_add_38
    · have hf := nz_ite_f hf h9
      refine nz_iconst (pc := 21) (v := -1) E dX8_add_21 (by decide) ?_
      exact nz_iret (pc := 22) E hR rfl hf dX8_add_22
def f_X8_cut (a0 : Int32) (a1 : Int32) (x : nz_S) : Option (Int32 × nz_S) :=
  let x1 : nz_S := nz_put x 0 0 (0 : Int32)
  nz_bnd (f_X8_noArc  a0 a1 x1) fun r2 x3 =>
  if r2 = (0 : Int32) then
    nz_bnd (f_X8_note   x3) fun r6 x7 =>
    nz_bnd (f_X8_goCut 3 a0 a1 x7) fun r9 x10 =>
    some (r9, x10)
  else
    some ((-1 : Int32), x3)
theorem ds_X8_cut : nz_dsc yX8_cut 2 := by unfold nz_dsc; decide +kernel
set_option maxHeartbeats 4000000 in
set_option maxRecDepth 20000 in
theorem k_X8_cut {l : Launch} {w : nz_O} {q : Nat → Nat} (a0 : Int32) (a1 : Int32) (x : nz_S) (o : Int32 × nz_S) (hf : f_X8_cut a0 a1 x = some o) : nz_MI l yX8_cut (nz_T yX8_cut cX8_cut 3 (some .int)) (nz_R 3 68) w q nz_tM [.ref (q 0), .int a0, .int a1] x o := by
  refine nz_enterI (by decide) rfl (Nat.le_of_ble_eq_true rfl) rfl rfl ?_
  intro κ E hw hlq hR
  subst hw; subst hlq
  unfold f_X8_cut at hf
  refine nz_weak (lv' := [(0, .ref (q 0)), (1, .int a0), (2, .int a1)]) ⟨rfl, rfl, rfl, trivial⟩ ?_
  refine nz_aload_n (pc := 0) (i := 0) E dX8_cut_0 rfl rfl ?_
  refine nz_iconst (pc := 1) (v := 0) E dX8_cut_1 (by decide) ?_
  refine nz_putI (pc := 2) (c := 0) (kf := 0) E rfl rfl (nz_upT nz_uX8) (by decide) (List.mem_cons_of_mem _ nz_w676) rfl tyX8 tyX8_ok nmX8 rfl (tyX8_ok 0 (by decide)) rfl dX8_cut_2 ?_
  refine nz_aload_n (pc := 5) (i := 0) E dX8_cut_5 rfl rfl ?_
  refine nz_iload_n (pc := 6) (i := 1) E dX8_cut_6 rfl rfl ?_
  refine nz_iload_n (pc := 7) (i := 2) E dX8_cut_7 rfl rfl ?_
  obtain ⟨r2, x3, h4, hf⟩ := nz_bnd_t hf
  refine nz_callVI (pc := 8) (c0 := 0) (As := [.int _, .int _]) E rfl rfl (k_X8_noArc   _ _ _ _ h4) (nz_cwV E nz_w883 nz_w885 nz_w39 nz_w67 nz_w886 ds_X8_noArc ⟨Nat.le_of_ble_eq_true rfl, Nat.le_of_ble_eq_true rfl⟩ rfl rfl) rfl rfl (Nat.le_of_ble_eq_true rfl) dX8_cut_8 ?_
  refine nz_if_eq (pc := 11) (tgt := 16) E dX8_cut_11 (by decide) (fun h5 => ?_) (fun h5 => ?_)
  · have hf := nz_ite_t hf h5
    refine nz_aload_n (pc := 16) (i := 0) E dX8_cut_16 rfl rfl ?_
    obtain ⟨r6, x7, h8, hf⟩ := nz_bnd_t hf
    refine nz_callVV (pc := 17) (c0 := 0) (As := []) E rfl rfl (k_X8_note   _ _ h8) (nz_cwV E nz_w904 nz_w906 nz_w42 nz_w67 nz_w907 ds_X8_note ⟨Nat.le_of_ble_eq_true rfl, Nat.le_of_ble_eq_true rfl⟩ rfl rfl) rfl rfl (Nat.le_of_ble_eq_true rfl) dX8_cut_17 ?_
    refine nz_aload_n (pc := 20) (i := 0) E dX8_cut_20 rfl rfl ?_
    refine nz_getR (pc := 21) (c := 0) (kf := 5) E rfl rfl (nz_upT nz_uX8) (by decide) (List.mem_cons_of_mem _ nz_w681) rfl rfl dX8_cut_21 ?_
    refine nz_iload_n (pc := 24) (i := 1) E dX8_cut_24 rfl rfl ?_
    refine nz_iload_n (pc := 25) (i := 2) E dX8_cut_25 rfl rfl ?_
    obtain ⟨r9, x10, h11, hf⟩ := nz_bnd_t hf
    refine nz_callSI (pc := 26) (As := [.ref (q 3), .int _, .int _]) E (k_X8_goCut 3 nz_p3 _ _ _ _ h11) (nz_cwS E nz_w915 nz_w916 nz_w67 nz_w917 ds_X8_goCut ⟨Nat.le_of_ble_eq_true rfl, Nat.le_of_ble_eq_true rfl⟩ rfl rfl) rfl rfl (Nat.le_of_ble_eq_true rfl) dX8_cut_26 ?_
    exact nz_iret (pc := 29) E hR rfl hf dX8_cut_29
  · have hf := nz_ite_f hf h5
    refine nz_iconst (pc := 14) (v := -1) E dX8_cut_14 (by decide) ?_
    exact nz_iret (pc := 15) E hR rfl hf dX8_cut_15
def f_X8_split (a0 : Int32) (a1 : Int32) (x : nz_S) : Option (Int32 × nz_S) :=
  let x1 : nz_S := nz_put x 0 0 (0 : Int32)
  nz_bnd (f_X8_noBlock  a0 x1) fun r2 x3 =>
  if r2 = (0 : Int32) then
    nz_bnd (f_X8_noBlock  a1 x3) fun r6 x7 =>
    if r6 = (0 : Int32) then
      nz_bnd (f_X8_goes 3 a0 a1 x7) fun r10 x11 =>
      if r10 = (0 : Int32) then
        some ((-3 : Int32), x11)
      else
        nz_chk (nz_in (0 : Int32) 61) <|
        if (x11.1 3 ((0 : Int32)).toNatClampNeg) = (12 : Int32) then
          some ((-4 : Int32), x11)
        else
          nz_bnd (f_X8_note   x11) fun r16 x17 =>
          nz_bnd (f_X8_goSplit 3 a0 a1 x17) fun r19 x20 =>
          some (r19, x20)
    else
      some ((-1 : Int32), x7)
  else
    some ((-1 : Int32), x3)
theorem ds_X8_split : nz_dsc yX8_split 2 := by unfold nz_dsc; decide +kernel
set_option maxHeartbeats 4000000 in
set_option maxRecDepth 20000 in
theorem k_X8_split {l : Launch} {w : nz_O} {q : Nat → Nat} (a0 : Int32) (a1 : Int32) (x : nz_S) (o : Int32 × nz_S) (hf : f_X8_split a0 a1 x = some o) : nz_MI l yX8_split (nz_T yX8_split cX8_split 3 (some .int)) (nz_R 2 46) w q nz_tM [.ref (q 0), .int a0, .int a1] x o := by
  refine nz_enterI (by decide) rfl (Nat.le_of_ble_eq_true rfl) rfl rfl ?_
  intro κ E hw hlq hR
  subst hw; subst hlq
  unfold f_X8_split at hf
  refine nz_weak (lv' := [(0, .ref (q 0)), (1, .int a0), (2, .int a1)]) ⟨rfl, rfl, rfl, trivial⟩ ?_
  refine nz_aload_n (pc := 0) (i := 0) E dX8_split_0 rfl rfl ?_
  refine nz_iconst (pc := 1) (v := 0) E dX8_split_1 (by decide) ?_
  refine nz_putI (pc := 2) (c := 0) (kf := 0) E rfl rfl (nz_upT nz_uX8) (by decide) (List.mem_cons_of_mem _ nz_w676) rfl tyX8 tyX8_ok nmX8 rfl (tyX8_ok 0 (by decide)) rfl dX8_split_2 ?_
  refine nz_aload_n (pc := 5) (i := 0) E dX8_split_5 rfl rfl ?_
  refine nz_iload_n (pc := 6) (i := 1) E dX8_split_6 rfl rfl ?_
  obtain ⟨r2, x3, h4, hf⟩ := nz_bnd_t hf
  refine nz_callVI (pc := 7) (c0 := 0) (As := [.int _]) E rfl rfl (k_X8_noBlock   _ _ _ h4) (nz_cwV E nz_w875 nz_w877 nz_w38 nz_w67 nz_w878 ds_X8_noBlock ⟨Nat.le_of_ble_eq_true rfl, Nat.le_of_ble_eq_true rfl⟩ rfl rfl) rfl rfl (Nat.le_of_ble_eq_true rfl) dX8_split_7 ?_
  refine nz_if_ne (pc := 10) (tgt := 21) E dX8_split_10 (by decide) (fun h5 => ?_) (fun h5 => ?_)
  · have hf := nz_ite_f hf h5
    refine nz_iconst (pc := 21) (v := -1) E dX8_split_21 (by decide) ?_
    exact nz_iret (pc := 22) E hR rfl hf dX8_split_22
  · have hf := nz_ite_t hf h5
    refine nz_aload_n (pc := 13) (i := 0) E dX8_split_13 rfl rfl ?_
    refine nz_iload_n (pc := 14) (i := 2) E dX8_split_14 rfl rfl ?_
    obtain ⟨r6, x7, h8, hf⟩ := nz_bnd_t hf
    refine nz_callVI (pc := 15) (c0 := 0) (As := [.int _]) E rfl rfl (k_X8_noBlock   _ _ _ h8) (nz_cwV E nz_w875 nz_w877 nz_w38 nz_w67 nz_w878 ds_X8_noBlock ⟨Nat.le_of_ble_eq_true rfl, Nat.le_of_ble_eq_true rfl⟩ rfl rfl) rfl rfl (Nat.le_of_ble_eq_true rfl) dX8_split_15 ?_
    refine nz_if_eq (pc := 18) (tgt := 23) E dX8_split_18 (by decide) (fun h9 => ?_) (fun h9 => ?_)
    · have hf := nz_ite_t hf h9
      refine nz_aload_n (pc := 23) (i := 0) E dX8_split_23 rfl rfl ?_
      refine nz_getR (pc := 24) (c := 0) (kf := 5) E rfl rfl (nz_upT nz_uX8) (by decide) (List.mem_cons_of_mem _ nz_w681) rfl rfl dX8_split_24 ?_
      refine nz_iload_n (pc := 27) (i := 1) E dX8_split_27 rfl rfl ?_
      refine nz_iload_n (pc := 28) (i := 2) E dX8_split_28 rfl rfl ?_
      obtain ⟨r10, x11, h12, hf⟩ := nz_bnd_t hf
      refine nz_callSI (pc := 29) (As := [.ref (q 3), .int _, .int _]) E (k_X8_goes 3 nz_p3 _ _ _ _ h12) (nz_cwS E nz_w816 nz_w817 nz_w67 nz_w818 ds_X8_goes ⟨Nat.le_of_ble_eq_true rfl, Nat.le_of_ble_eq_true rfl⟩ rfl rfl) rfl rfl (Nat.le_of_ble_eq_true rfl) dX8_split_29 ?_
      refine nz_if_ne (pc := 32) (tgt := 38) E dX8_split_32 (by decide) (fun h13 => ?_) (fun h13 => ?_)
      · have hf := nz_ite_f hf h13
        refine nz_aload_n (pc := 38) (i := 0) E dX8_split_38 rfl rfl ?_
        refine nz_getR (pc := 39) (c := 0) (kf := 5) E rfl rfl (nz_upT nz_uX8) (by decide) (List.mem_cons_of_mem _ nz_w681) rfl rfl dX8_split_39 ?_
        refine nz_iconst (pc := 42) (v := 0) E dX8_split_42 (by decide) ?_
        obtain ⟨h14, hf⟩ := nz_chk_t hf
        refine nz_iald (pc := 43) (c := 3) E rfl h14 dX8_split_43 ?_
        refine nz_bipush (pc := 44) (v := 12) E dX8_split_44 (by decide) ?_
        refine nz_icmp_ne (pc := 46) (tgt := 52) E dX8_split_46 (by decide) (fun h15 => ?_) (fun h15 => ?_)
        · have hf := nz_ite_f hf h15
          refine nz_aload_n (pc := 52) (i := 0) E dX8_split_52 rfl rfl ?_
          obtain ⟨r16, x17, h18, hf⟩ := nz_bnd_t hf
          refine nz_callVV (pc := 53) (c0 := 0) (As := []) E rfl rfl (k_X8_note   _ _ h18) (nz_cwV E nz_w904 nz_w906 nz_w42 nz_w67 nz_w907 ds_X8_note ⟨Nat.le_of_ble_eq_true rfl, Nat.le_of_ble_eq_true rfl⟩ rfl rfl) rfl rfl (Nat.le_of_ble_eq_true rfl) dX8_split_53 ?_
          refine nz_aload_n (pc := 56) (i := 0) E dX8_split_56 rfl rfl ?_
          refine nz_getR (pc := 57) (c := 0) (kf := 5) E rfl rfl (nz_upT nz_uX8) (by decide) (List.mem_cons_of_mem _ nz_w681) rfl rfl dX8_split_57 ?_
          refine nz_iload_n (pc := 60) (i := 1) E dX8_split_60 rfl rfl ?_
          refine nz_iload_n (pc := 61) (i := 2) E dX8_split_61 rfl rfl ?_
          obtain ⟨r19, x20, h21, hf⟩ := nz_bnd_t hf
          refine nz_callSI (pc := 62) (As := [.ref (q 3), .int _, .int _]) E (k_X8_goSplit 3 nz_p3 _ _ _ _ h21) (nz_cwS E nz_w922 nz_w923 nz_w67 nz_w924 ds_X8_goSplit ⟨Nat.le_of_ble_eq_true rfl, Nat.le_of_ble_eq_true rfl⟩ rfl rfl) rfl rfl (Nat.le_of_ble_eq_true rfl) dX8_split_62 ?_
          exact nz_iret (pc := 65) E hR rfl hf dX8_split_65
        · have hf := nz_ite_t hf h15
          refine nz_bipush (pc := 49) (v := -4) E dX8_split_49 (by decide) ?_
          exact nz_iret (pc := 51) E hR rfl hf dX8_split_51
      · have hf := nz_ite_t hf h13
        refine nz_bipush (pc := 35) (v := -3) E dX8_split_35 (by decide) ?_
        exact nz_iret (pc := 37) E hR rfl hf dX8_split_37
    · have hf := nz_ite_f hf h9
      refine nz_iconst (pc := 21) (v := -1) E dX8_split_21 (by decide) ?_
      exact nz_iret (pc := 22) E hR rfl hf dX8_split_22
def f_X8_worst_5 : Nat → Int32 → Int32 → nz_S → (Int32 → Int32 → nz_S → Option (Int32 × nz_S)) → Option (Int32 × nz_S)
  | 0, _, _, _, _ => none
  | fu + 1, w1, w2, x, K =>
  if (12 : Int32) ≤ w2 then
    K w1 w2 x
  else
    nz_chk (nz_in w2 12) <|
    if (x.1 11 (w2).toNatClampNeg) = (-9 : Int32) then
      let v5 : Int32 := w2 + 1
      f_X8_worst_5 fu w1 v5 x K
    else
      nz_chk (nz_in w2 12) <|
      if (x.1 16 (w2).toNatClampNeg) = (3 : Int32) then
        if w1 = (-9 : Int32) then
          let v12 : Int32 := w2 + 1
          f_X8_worst_5 fu w2 v12 x K
        else
          nz_chk (nz_in w2 12) <|
          nz_chk (nz_in w1 12) <|
          if (x.1 11 (w2).toNatClampNeg) ≤ (x.1 11 (w1).toNatClampNeg) then
            let v17 : Int32 := w2 + 1
            f_X8_worst_5 fu w1 v17 x K
          else
            let v19 : Int32 := w2 + 1
            f_X8_worst_5 fu w2 v19 x K
      else
        let v9 : Int32 := w2 + 1
        f_X8_worst_5 fu w1 v9 x K
def f_X8_worst (x : nz_S) : Option (Int32 × nz_S) :=
  f_X8_worst_5 nz_F (-9 : Int32) (0 : Int32) x fun u21 u22 x20 =>
    some (u21, x20)
theorem ds_X8_worst : nz_dsc yX8_worst 0 := by unfold nz_dsc; decide +kernel
set_option maxHeartbeats 4000000 in
set_option maxRecDepth 20000 in
theorem w_X8_worst_5 {κ : nz_C} {q : Nat → Nat} {o : Int32 × nz_S} (E : nz_Env κ q nz_tM 4 cX8_worst RX8 (nz_T yX8_worst cX8_worst 4 (some .int)) (nz_R 0 0)) (hR : nz_RI κ q nz_tM .int o) : ∀ (fu : Nat) (w1 : Int32) (w2 : Int32) (x : nz_S) (K : Int32 → Int32 → nz_S → Option (Int32 × nz_S)), f_X8_worst_5 fu w1 w2 x K = some o → (∀ (w1 : Int32) (w2 : Int32) (x : nz_S), K w1 w2 x = some o → nz_St κ q nz_tM 4 75 [(0, .ref (q 0)), (1, .int w1), (2, .int w2)] [] x) → nz_St κ q nz_tM 4 5 [(0, .ref (q 0)), (1, .int w1), (2, .int w2)] [] x := by
  intro fu
  induction fu with
  | zero => intro w1 w2 x K hf; rw [f_X8_worst_5] at hf; cases hf
  | succ fu ih =>
    intro w1 w2 x K hf hK
    rw [f_X8_worst_5] at hf
    refine nz_iload_n (pc := 5) (i := 2) E dX8_worst_5 rfl rfl ?_
    refine nz_bipush (pc := 6) (v := 12) E dX8_worst_6 (by decide) ?_
    refine nz_icmp_ge (pc := 8) (tgt := 75) E dX8_worst_8 (by decide) (fun h1 => ?_) (fun h1 => ?_)
    · have hf := nz_ite_t hf h1
      refine nz_weak (lv' := [(0, .ref (q 0)), (1, .int _), (2, .int _)]) ⟨rfl, rfl, rfl, trivial⟩ ?_
      exact hK _ _ _ hf
    · have hf := nz_ite_f hf h1
      refine nz_aload_n (pc := 11) (i := 0) E dX8_worst_11 rfl rfl ?_
      refine nz_getR (pc := 12) (c := 0) (kf := 17) E rfl rfl (nz_upT nz_uX8) (by decide) (List.mem_cons_of_mem _ nz_w693) rfl rfl dX8_worst_12 ?_
      refine nz_iload_n (pc := 15) (i := 2) E dX8_worst_15 rfl rfl ?_
      obtain ⟨h2, hf⟩ := nz_chk_t hf
      refine nz_iald (pc := 16) (c := 11) E rfl h2 dX8_worst_16 ?_
      refine nz_bipush (pc := 17) (v := -9) E dX8_worst_17 (by decide) ?_
      refine nz_icmp_eq (pc := 19) (tgt := 57) E dX8_worst_19 (by decide) (fun h3 => ?_) (fun h3 => ?_)
      · have hf := nz_ite_t hf h3
        refine nz_iconst (pc := 57) (v := 0) E dX8_worst_57 (by decide) ?_
        refine nz_istore_n (pc := 58) (i := 3) E dX8_worst_58 rfl (by decide) rfl ?_
        refine nz_iload_n (pc := 59) (i := 3) E dX8_worst_59 rfl rfl ?_
        refine nz_if_eq (pc := 60) (tgt := 67) E dX8_worst_60 (by decide) (fun h4 => ?_) (fun h4 => absurd h4 (by decide))
        refine nz_iload_n (pc := 67) (i := 1) E dX8_worst_67 rfl rfl ?_
        refine nz_istore_n (pc := 68) (i := 1) E dX8_worst_68 rfl (by decide) rfl ?_
        refine nz_iinc (pc := 69) (i := 2) (w := 1) E dX8_worst_69 rfl (by decide) (by decide) rfl ?_
        refine nz_goto (pc := 72) (tgt := 5) E dX8_worst_72 (by decide) ?_
        refine nz_weak (lv' := [(0, .ref (q 0)), (1, .int _), (2, .int _)]) ⟨rfl, rfl, rfl, trivial⟩ ?_
        exact ih _ _ _ _ hf hK
      · have hf := nz_ite_f hf h3
        refine nz_aload_n (pc := 22) (i := 0) E dX8_worst_22 rfl rfl ?_
        refine nz_getR (pc := 23) (c := 0) (kf := 22) E rfl rfl (nz_upT nz_uX8) (by decide) (List.mem_cons_of_mem _ nz_w698) rfl rfl dX8_worst_23 ?_
        refine nz_iload_n (pc := 26) (i := 2) E dX8_worst_26 rfl rfl ?_
        obtain ⟨h6, hf⟩ := nz_chk_t hf
        refine nz_iald (pc := 27) (c := 16) E rfl h6 dX8_worst_27 ?_
        refine nz_iconst (pc := 28) (v := 3) E dX8_worst_28 (by decide) ?_
        refine nz_icmp_ne (pc := 29) (tgt := 57) E dX8_worst_29 (by decide) (fun h7 => ?_) (fun h7 => ?_)
        · have hf := nz_ite_f hf h7
          refine nz_iconst (pc := 57) (v := 0) E dX8_worst_57 (by decide) ?_
          refine nz_istore_n (pc := 58) (i := 3) E dX8_worst_58 rfl (by decide) rfl ?_
          refine nz_iload_n (pc := 59) (i := 3) E dX8_worst_59 rfl rfl ?_
          refine nz_if_eq (pc := 60) (tgt := 67) E dX8_worst_60 (by decide) (fun h8 => ?_) (fun h8 => absurd h8 (by decide))
          refine nz_iload_n (pc := 67) (i := 1) E dX8_worst_67 rfl rfl ?_
          refine nz_istore_n (pc := 68) (i := 1) E dX8_worst_68 rfl (by decide) rfl ?_
          refine nz_iinc (pc := 69) (i := 2) (w := 1) E dX8_worst_69 rfl (by decide) (by decide) rfl ?_
          refine nz_goto (pc := 72) (tgt := 5) E dX8_worst_72 (by decide) ?_
          refine nz_weak (lv' := [(0, .ref (q 0)), (1, .int _), (2, .int _)]) ⟨rfl, rfl, rfl, trivial⟩ ?_
          exact ih _ _ _ _ hf hK
        · have hf := nz_ite_t hf h7
          refine nz_iload_n (pc := 32) (i := 1) E dX8_worst_32 rfl rfl ?_
          refine nz_bipush (pc := 33) (v := -9) E dX8_worst_33 (by decide) ?_
          refine nz_icmp_eq (pc := 35) (tgt := 53) E dX8_worst_35 (by decide) (fun h10 => ?_) (fun h10 => ?_)
          · have hf := nz_ite_t hf h10
            refine nz_iconst (pc := 53) (v := 1) E dX8_worst_53 (by decide) ?_
            refine nz_goto (pc := 54) (tgt := 58) E dX8_worst_54 (by decide) ?_
            refine nz_istore_n (pc := 58) (i := 3) E dX8_worst_58 rfl (by decide) rfl ?_
            refine nz_iload_n (pc := 59) (i := 3) E dX8_worst_59 rfl rfl ?_
            refine nz_if_eq (pc := 60) (tgt := 67) E dX8_worst_60 (by decide) (fun h11 => absurd h11 (by decide)) (fun h11 => ?_)
            refine nz_iload_n (pc := 63) (i := 2) E dX8_worst_63 rfl rfl ?_
            refine nz_goto (pc := 64) (tgt := 68) E dX8_worst_64 (by decide) ?_
            refine nz_istore_n (pc := 68) (i := 1) E dX8_worst_68 rfl (by decide) rfl ?_
            refine nz_iinc (pc := 69) (i := 2) (w := 1) E dX8_worst_69 rfl (by decide) (by decide) rfl ?_
            refine nz_goto (pc := 72) (tgt := 5) E dX8_worst_72 (by decide) ?_
            refine nz_weak (lv' := [(0, .ref (q 0)), (1, .int _), (2, .int _)]) ⟨rfl, rfl, rfl, trivial⟩ ?_
            exact ih _ _ _ _ hf hK
          · have hf := nz_ite_f hf h10
            refine nz_aload_n (pc := 38) (i := 0) E dX8_worst_38 rfl rfl ?_
            refine nz_getR (pc := 39) (c := 0) (kf := 17) E rfl rfl (nz_upT nz_uX8) (by decide) (List.mem_cons_of_mem _ nz_w693) rfl rfl dX8_worst_39 ?_
            refine nz_iload_n (pc := 42) (i := 2) E dX8_worst_42 rfl rfl ?_
            obtain ⟨h13, hf⟩ := nz_chk_t hf
            refine nz_iald (pc := 43) (c := 11) E rfl h13 dX8_worst_43 ?_
            refine nz_aload_n (pc := 44) (i := 0) E dX8_worst_44 rfl rfl ?_
            refine nz_getR (pc := 45) (c := 0) (kf := 17) E rfl rfl (nz_upT nz_uX8) (by decide) (List.mem_cons_of_mem _ nz_w693) rfl rfl dX8_worst_45 ?_
            refine nz_iload_n (pc := 48) (i := 1) E dX8_worst_48 rfl rfl ?_
            obtain ⟨h14, hf⟩ := nz_chk_t hf
            refine nz_iald (pc := 49) (c := 11) E rfl h14 dX8_worst_49 ?_
            refine nz_icmp_le (pc := 50) (tgt := 57) E dX8_worst_50 (by decide) (fun h15 => ?_) (fun h15 => ?_)
            · have hf := nz_ite_t hf h15
              refine nz_iconst (pc := 57) (v := 0) E dX8_worst_57 (by decide) ?_
              refine nz_istore_n (pc := 58) (i := 3) E dX8_worst_58 rfl (by decide) rfl ?_
              refine nz_iload_n (pc := 59) (i := 3) E dX8_worst_59 rfl rfl ?_
              refine nz_if_eq (pc := 60) (tgt := 67) E dX8_worst_60 (by decide) (fun h16 => ?_) (fun h16 => absurd h16 (by decide))
              refine nz_iload_n (pc := 67) (i := 1) E dX8_worst_67 rfl rfl ?_
              refine nz_istore_n (pc := 68) (i := 1) E dX8_worst_68 rfl (by decide) rfl ?_
              refine nz_iinc (pc := 69) (i := 2) (w := 1) E dX8_worst_69 rfl (by decide) (by decide) rfl ?_
              refine nz_goto (pc := 72) (tgt := 5) E dX8_worst_72 (by decide) ?_
              refine nz_weak (lv' := [(0, .ref (q 0)), (1, .int _), (2, .int _)]) ⟨rfl, rfl, rfl, trivial⟩ ?_
              exact ih _ _ _ _ hf hK
            · have hf := nz_ite_f hf h15
              refine nz_iconst (pc := 53) (v := 1) E dX8_worst_53 (by decide) ?_
              refine nz_goto (pc := 54) (tgt := 58) E dX8_worst_54 (by decide) ?_
              refine nz_istore_n (pc := 58) (i := 3) E dX8_worst_58 rfl (by decide) rfl ?_
              refine nz_iload_n (pc := 59) (i := 3) E dX8_worst_59 rfl rfl ?_
              refine nz_if_eq (pc := 60) (tgt := 67) E dX8_worst_60 (by decide) (fun h18 => absurd h18 (by decide)) (fun h18 => ?_)
              refine nz_iload_n (pc := 63) (i := 2) E dX8_worst_63 rfl rfl ?_
              refine nz_goto (pc := 64) (tgt := 68) E dX8_worst_64 (by decide) ?_
              refine nz_istore_n (pc := 68) (i := 1) E dX8_worst_68 rfl (by decide) rfl ?_
              refine nz_iinc (pc := 69) (i := 2) (w := 1) E dX8_worst_69 rfl (by decide) (by decide) rfl ?_
              refine nz_goto (pc := 72) (tgt := 5) E dX8_worst_72 (by decide) ?_
              refine nz_weak (lv' := [(0, .ref (q 0)), (1, .int _), (2, .int _)]) ⟨rfl, rfl, rfl, trivial⟩ ?_
              exact ih _ _ _ _ hf hK
set_option maxHeartbeats 4000000 in
set_option maxRecDepth 20000 in
theorem k_X8_worst {l : Launch} {w : nz_O} {q : Nat → Nat} (x : nz_S) (o : Int32 × nz_S) (hf : f_X8_worst x = some o) : nz_MI l yX8_worst (nz_T yX8_worst cX8_worst 4 (some .int)) (nz_R 0 0) w q nz_tM [.ref (q 0)] x o := by
  refine nz_enterI (by decide) rfl (Nat.le_of_ble_eq_true rfl) rfl rfl ?_
  intro κ E hw hlq hR
  subst hw; subst hlq
  unfold f_X8_worst at hf
  refine nz_weak (lv' := [(0, .ref (q 0))]) ⟨rfl, trivial⟩ ?_
  refine nz_bipush (pc := 0) (v := -9) E dX8_worst_0 (by decide) ?_
  refine nz_istore_n (pc := 2) (i := 1) E dX8_worst_2 rfl (by decide) rfl ?_
  refine nz_iconst (pc := 3) (v := 0) E dX8_worst_3 (by decide) ?_
  refine nz_istore_n (pc := 4) (i := 2) E dX8_worst_4 rfl (by decide) rfl ?_
  refine nz_weak (lv' := [(0, .ref (q 0)), (1, .int _), (2, .int _)]) ⟨rfl, rfl, rfl, trivial⟩ ?_
  refine w_X8_worst_5 E hR _ _ _ _ _ hf (fun u21 u22 x20 hf => ?_)
  refine nz_iload_n (pc := 75) (i := 1) E dX8_worst_75 rfl rfl ?_
  exact nz_iret (pc := 76) E hR rfl hf dX8_worst_76
