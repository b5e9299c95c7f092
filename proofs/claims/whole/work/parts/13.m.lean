def f_X7_sets (a0 : Int32) (a1 : Int32) (x : nz_S) : Option (Int32 × nz_S) :=
  nz_bnd (f_X0_hasBlock 3 a0 x) fun r1 x2 =>
  if r1 = (0 : Int32) then
    some ((-1 : Int32), x2)
  else
    if a1 < (0 : Int32) then
      some ((-2 : Int32), x2)
    else
      if a1 ≤ (3 : Int32) then
        nz_bnd (f_X5_read 3  x2) fun r7 x8 =>
        nz_bnd (f_X5_hasOrder  a0 x8) fun r10 x11 =>
        if r10 = (0 : Int32) then
          some ((0 : Int32), x11)
        else
          if a1 = (0 : Int32) then
            nz_chk (nz_in a0 12) <|
            some ((x11.1 14 (a0).toNatClampNeg), x11)
          else
          if a1 = (1 : Int32) then
            nz_bnd (f_X5_nestOf  a0 x11) fun r17 x18 =>
            some (r17, x18)
          else
          if a1 = (2 : Int32) then
            nz_bnd (f_X5_passedBy  a0 x11) fun r21 x22 =>
            some (r21, x22)
          else
            nz_chk (nz_in a0 12) <|
            some ((x11.1 17 (a0).toNatClampNeg), x11)
      else
        some ((-2 : Int32), x2)
theorem ds_X7_sets : nz_dsc yX7_sets 2 := by unfold nz_dsc; decide +kernel
set_option maxHeartbeats 4000000 in
set_option maxRecDepth 20000 in
theorem k_X7_sets {l : Launch} {w : nz_O} {q : Nat → Nat} (a0 : Int32) (a1 : Int32) (x : nz_S) (o : Int32 × nz_S) (hf : f_X7_sets a0 a1 x = some o) : nz_MI l yX7_sets (nz_T yX7_sets cX7_sets 3 (some .int)) (nz_R 15 386) w q nz_tK [.ref (q 0), .int a0, .int a1] x o := by
  refine nz_enterI (by decide) rfl (Nat.le_of_ble_eq_true rfl) rfl rfl ?_
  intro κ E hw hlq hR
  subst hw; subst hlq
  unfold f_X7_sets at hf
  refine nz_weak (lv' := [(0, .ref (q 0)), (1, .int a0), (2, .int a1)]) ⟨rfl, rfl, rfl, trivial⟩ ?_
  refine nz_aload_n (pc := 0) (i := 0) E dX7_sets_0 rfl rfl ?_
  refine nz_getR (pc := 1) (c := 0) (kf := 1) E rfl rfl (nz_upT nz_uX7) (by decide) (List.mem_cons_of_mem _ nz_w249) rfl rfl dX7_sets_1 ?_
  refine nz_iload_n (pc := 4) (i := 1) E dX7_sets_4 rfl rfl ?_
  obtain ⟨r1, x2, h3, hf⟩ := nz_bnd_t hf
  refine nz_callVI (pc := 5) (c0 := 3) (As := [.int _]) E rfl rfl (k_X0_hasBlock 3 nz_g3 _ _ _ h3) (nz_cwV E nz_w418 nz_w419 nz_w420 nz_w60 nz_w421 ds_X0_hasBlock ⟨Nat.le_of_ble_eq_true rfl, Nat.le_of_ble_eq_true rfl⟩ rfl rfl) rfl rfl (Nat.le_of_ble_eq_true rfl) dX7_sets_5 ?_
  refine nz_if_ne (pc := 8) (tgt := 13) E dX7_sets_8 (by decide) (fun h4 => ?_) (fun h4 => ?_)
  · have hf := nz_ite_f hf h4
    refine nz_iload_n (pc := 13) (i := 2) E dX7_sets_13 rfl rfl ?_
    refine nz_if_lt (pc := 14) (tgt := 22) E dX7_sets_14 (by decide) (fun h5 => ?_) (fun h5 => ?_)
    · have hf := nz_ite_t hf h5
      refine nz_bipush (pc := 22) (v := -2) E dX7_sets_22 (by decide) ?_
      exact nz_iret (pc := 24) E hR rfl hf dX7_sets_24
    · have hf := nz_ite_f hf h5
      refine nz_iload_n (pc := 17) (i := 2) E dX7_sets_17 rfl rfl ?_
      refine nz_iconst (pc := 18) (v := 3) E dX7_sets_18 (by decide) ?_
      refine nz_icmp_le (pc := 19) (tgt := 25) E dX7_sets_19 (by decide) (fun h6 => ?_) (fun h6 => ?_)
      · have hf := nz_ite_t hf h6
        refine nz_aload_n (pc := 25) (i := 0) E dX7_sets_25 rfl rfl ?_
        refine nz_getR (pc := 26) (c := 0) (kf := 3) E rfl rfl (nz_upT nz_uX7) (by decide) (List.mem_cons_of_mem _ nz_w251) rfl rfl dX7_sets_26 ?_
        refine nz_aload_n (pc := 29) (i := 0) E dX7_sets_29 rfl rfl ?_
        refine nz_getR (pc := 30) (c := 0) (kf := 1) E rfl rfl (nz_upT nz_uX7) (by decide) (List.mem_cons_of_mem _ nz_w249) rfl rfl dX7_sets_30 ?_
        obtain ⟨r7, x8, h9, hf⟩ := nz_bnd_t hf
        refine nz_callVV (pc := 33) (c0 := 11) (As := [.ref (q 3)]) E rfl rfl (k_X5_read 3 nz_g3 _ _ h9) (nz_cwV E nz_w343 nz_w344 nz_w345 nz_w61 nz_w346 ds_X5_read ⟨Nat.le_of_ble_eq_true rfl, Nat.le_of_ble_eq_true rfl⟩ rfl rfl) rfl rfl (Nat.le_of_ble_eq_true rfl) dX7_sets_33 ?_
        refine nz_aload_n (pc := 36) (i := 0) E dX7_sets_36 rfl rfl ?_
        refine nz_getR (pc := 37) (c := 0) (kf := 3) E rfl rfl (nz_upT nz_uX7) (by decide) (List.mem_cons_of_mem _ nz_w251) rfl rfl dX7_sets_37 ?_
        refine nz_iload_n (pc := 40) (i := 1) E dX7_sets_40 rfl rfl ?_
        obtain ⟨r10, x11, h12, hf⟩ := nz_bnd_t hf
        refine nz_callVI (pc := 41) (c0 := 11) (As := [.int _]) E rfl rfl (k_X5_hasOrder   _ _ _ h12) (nz_cwV E nz_w437 nz_w362 nz_w363 nz_w61 nz_w364 ds_X5_hasOrder ⟨Nat.le_of_ble_eq_true rfl, Nat.le_of_ble_eq_true rfl⟩ rfl rfl) rfl rfl (Nat.le_of_ble_eq_true rfl) dX7_sets_41 ?_
        refine nz_if_ne (pc := 44) (tgt := 49) E dX7_sets_44 (by decide) (fun h13 => ?_) (fun h13 => ?_)
        · have hf := nz_ite_f hf h13
          refine nz_iload_n (pc := 49) (i := 2) E dX7_sets_49 rfl rfl ?_
          by_cases h14 : a1 = 0
          · have hf := nz_ite_t hf h14
            refine nz_tabIn (pc := 50) (off := 26) (tgt := 76) E dX7_sets_50 (by rw [h14]; decide) (by rw [h14]; decide) (by rw [h14]; rfl) (by decide) ?_
            refine nz_aload_n (pc := 76) (i := 0) E dX7_sets_76 rfl rfl ?_
            refine nz_getR (pc := 77) (c := 0) (kf := 3) E rfl rfl (nz_upT nz_uX7) (by decide) (List.mem_cons_of_mem _ nz_w251) rfl rfl dX7_sets_77 ?_
            refine nz_getNR (pc := 80) (c := 11) (kf := 2) E rfl rfl (nz_upT nz_uX5) (by decide) nz_n133 rfl rfl dX7_sets_80 ?_
            refine nz_iload_n (pc := 83) (i := 1) E dX7_sets_83 rfl rfl ?_
            obtain ⟨h15, hf⟩ := nz_chk_t hf
            refine nz_iald (pc := 84) (c := 14) E rfl h15 dX7_sets_84 ?_
            exact nz_iret (pc := 85) E hR rfl hf dX7_sets_85
          · have hf := nz_ite_f hf h14
            by_cases h16 : a1 = 1
            · have hf := nz_ite_t hf h16
              refine nz_tabIn (pc := 50) (off := 36) (tgt := 86) E dX7_sets_50 (by rw [h16]; decide) (by rw [h16]; decide) (by rw [h16]; rfl) (by decide) ?_
              refine nz_aload_n (pc := 86) (i := 0) E dX7_sets_86 rfl rfl ?_
              refine nz_getR (pc := 87) (c := 0) (kf := 3) E rfl rfl (nz_upT nz_uX7) (by decide) (List.mem_cons_of_mem _ nz_w251) rfl rfl dX7_sets_87 ?_
              refine nz_iload_n (pc := 90) (i := 1) E dX7_sets_90 rfl rfl ?_
              obtain ⟨r17, x18, h19, hf⟩ := nz_bnd_t hf
              refine nz_callVI (pc := 91) (c0 := 11) (As := [.int _]) E rfl rfl (k_X5_nestOf   _ _ _ h19) (nz_cwV E nz_w438 nz_w439 nz_w440 nz_w61 nz_w441 ds_X5_nestOf ⟨Nat.le_of_ble_eq_true rfl, Nat.le_of_ble_eq_true rfl⟩ rfl rfl) rfl rfl (Nat.le_of_ble_eq_true rfl) dX7_sets_91 ?_
              exact nz_iret (pc := 94) E hR rfl hf dX7_sets_94
            · have hf := nz_ite_f hf h16
              by_cases h20 : a1 = 2
              · have hf := nz_ite_t hf h20
                refine nz_tabIn (pc := 50) (off := 45) (tgt := 95) E dX7_sets_50 (by rw [h20]; decide) (by rw [h20]; decide) (by rw [h20]; rfl) (by decide) ?_
                refine nz_aload_n (pc := 95) (i := 0) E dX7_sets_95 rfl rfl ?_
                refine nz_getR (pc := 96) (c := 0) (kf := 3) E rfl rfl (nz_upT nz_uX7) (by decide) (List.mem_cons_of_mem _ nz_w251) rfl rfl dX7_sets_96 ?_
                refine nz_iload_n (pc := 99) (i := 1) E dX7_sets_99 rfl rfl ?_
                obtain ⟨r21, x22, h23, hf⟩ := nz_bnd_t hf
                refine nz_callVI (pc := 100) (c0 := 11) (As := [.int _]) E rfl rfl (k_X5_passedBy   _ _ _ h23) (nz_cwV E nz_w442 nz_w407 nz_w408 nz_w61 nz_w409 ds_X5_passedBy ⟨Nat.le_of_ble_eq_true rfl, Nat.le_of_ble_eq_true rfl⟩ rfl rfl) rfl rfl (Nat.le_of_ble_eq_true rfl) dX7_sets_100 ?_
                exact nz_iret (pc := 103) E hR rfl hf dX7_sets_103
              · have hf := nz_ite_f hf h20
                have th14 : (a1).toInt ≠ 0 := fun e => h14 (nz_i32 (by rw [e]; decide))
                have th16 : (a1).toInt ≠ 1 := fun e => h16 (nz_i32 (by rw [e]; decide))
                have th20 : (a1).toInt ≠ 2 := fun e => h20 (nz_i32 (by rw [e]; decide))
                refine nz_tabOut (pc := 50) (tgt := 104) E dX7_sets_50 (by omega) (by decide) ?_
                refine nz_aload_n (pc := 104) (i := 0) E dX7_sets_104 rfl rfl ?_
                refine nz_getR (pc := 105) (c := 0) (kf := 3) E rfl rfl (nz_upT nz_uX7) (by decide) (List.mem_cons_of_mem _ nz_w251) rfl rfl dX7_sets_105 ?_
                refine nz_getNR (pc := 108) (c := 11) (kf := 5) E rfl rfl (nz_upT nz_uX5) (by decide) nz_n138 rfl rfl dX7_sets_108 ?_
                refine nz_iload_n (pc := 111) (i := 1) E dX7_sets_111 rfl rfl ?_
                obtain ⟨h24, hf⟩ := nz_chk_t hf
                refine nz_iald (pc := 112) (c := 17) E rfl h24 dX7_sets_112 ?_
                exact nz_iret (pc := 113) E hR rfl hf dX7_sets_113
        · have hf := nz_ite_t hf h13
          refine nz_iconst (pc := 47) (v := 0) E dX7_sets_47 (by decide) ?_
          exact nz_iret (pc := 48) E hR rfl hf dX7_sets_48
      · have hf := nz_ite_f hf h6
        refine nz_bipush (pc := 22) (v := -2) E dX7_sets_22 (by decide) ?_
        exact nz_iret (pc := 24) E hR rfl hf dX7_sets_24
  · have hf := nz_ite_t hf h4
    refine nz_iconst (pc := 11) (v := -1) E dX7_sets_11 (by decide) ?_
    exact nz_iret (pc := 12) E hR rfl hf dX7_sets_12
def f_X0_appendArc (g : Nat) (a0 : Int32) (a1 : Int32) (x : nz_S) : Option (Int32 × nz_S) :=
  nz_bnd (f_X0_hasBlock g a0 x) fun r1 x2 =>
  if r1 = (0 : Int32) then
    some ((-1 : Int32), x2)
  else
    nz_bnd (f_X0_hasBlock g a1 x2) fun r5 x6 =>
    if r5 = (0 : Int32) then
      some ((-1 : Int32), x6)
    else
      nz_chk (nz_in a0 12) <|
      if (x6.1 (g + 2) (a0).toNatClampNeg) < (3 : Int32) then
        nz_bnd (f_X0_putArcBehind g a0 a1 x6) fun r11 x12 =>
        nz_chk (nz_in a0 12) <|
        some ((x12.1 (g + 2) (a0).toNatClampNeg), x12)
      else
        some ((-4 : Int32), x6)
theorem ds_X0_appendArc : nz_dsc yX0_appendArc 2 := by unfold nz_dsc; decide +kernel
set_option maxHeartbeats 4000000 in
set_option maxRecDepth 20000 in
theorem k_X0_appendArc {l : Launch} {w : nz_O} {q : Nat → Nat} (g : Nat) (hg : nz_isG g) (a0 : Int32) (a1 : Int32) (x : nz_S) (o : Int32 × nz_S) (hf : f_X0_appendArc g a0 a1 x = some o) : nz_MI l yX0_appendArc (nz_T yX0_appendArc cX0_appendArc 3 (some .int)) (nz_R 1 22) w q nz_tK [.ref (q g), .int a0, .int a1] x o := by
  refine nz_enterI (by decide) rfl (Nat.le_of_ble_eq_true rfl) rfl rfl ?_
  intro κ E hw hlq hR
  subst hw; subst hlq
  unfold f_X0_appendArc at hf
  refine nz_weak (lv' := [(0, .ref (q g)), (1, .int a0), (2, .int a1)]) ⟨rfl, rfl, rfl, trivial⟩ ?_
  refine nz_aload_n (pc := 0) (i := 0) E dX0_appendArc_0 rfl rfl ?_
  refine nz_iload_n (pc := 1) (i := 1) E dX0_appendArc_1 rfl rfl ?_
  obtain ⟨r1, x2, h3, hf⟩ := nz_bnd_t hf
  refine nz_callVI (pc := 2) (c0 := g) (As := [.int _]) E hg.1 rfl (k_X0_hasBlock g hg _ _ _ h3) (nz_cwV E nz_w431 nz_w419 nz_w420 nz_w60 nz_w421 ds_X0_hasBlock ⟨Nat.le_of_ble_eq_true rfl, Nat.le_of_ble_eq_true rfl⟩ rfl rfl) rfl rfl (Nat.le_of_ble_eq_true rfl) dX0_appendArc_2 ?_
  refine nz_if_eq (pc := 5) (tgt := 16) E dX0_appendArc_5 (by decide) (fun h4 => ?_) (fun h4 => ?_)
  · have hf := nz_ite_t hf h4
    refine nz_iconst (pc := 16) (v := -1) E dX0_appendArc_16 (by decide) ?_
    exact nz_iret (pc := 17) E hR rfl hf dX0_appendArc_17
  · have hf := nz_ite_f hf h4
    refine nz_aload_n (pc := 8) (i := 0) E dX0_appendArc_8 rfl rfl ?_
    refine nz_iload_n (pc := 9) (i := 2) E dX0_appendArc_9 rfl rfl ?_
    obtain ⟨r5, x6, h7, hf⟩ := nz_bnd_t hf
    refine nz_callVI (pc := 10) (c0 := g) (As := [.int _]) E hg.1 rfl (k_X0_hasBlock g hg _ _ _ h7) (nz_cwV E nz_w431 nz_w419 nz_w420 nz_w60 nz_w421 ds_X0_hasBlock ⟨Nat.le_of_ble_eq_true rfl, Nat.le_of_ble_eq_true rfl⟩ rfl rfl) rfl rfl (Nat.le_of_ble_eq_true rfl) dX0_appendArc_10 ?_
    refine nz_if_ne (pc := 13) (tgt := 18) E dX0_appendArc_13 (by decide) (fun h8 => ?_) (fun h8 => ?_)
    · have hf := nz_ite_f hf h8
      refine nz_aload_n (pc := 18) (i := 0) E dX0_appendArc_18 rfl rfl ?_
      refine nz_getR (pc := 19) (c := g) (kf := 1) E hg.1 rfl (nz_upT nz_uX0) (by decide) (List.mem_cons_of_mem _ nz_w103) rfl rfl dX0_appendArc_19 ?_
      refine nz_iload_n (pc := 22) (i := 1) E dX0_appendArc_22 rfl rfl ?_
      obtain ⟨h9, hf⟩ := nz_chk_t hf
      refine nz_iald (pc := 23) (c := (g + 2)) E hg.2.2.1 h9 dX0_appendArc_23 ?_
      refine nz_iconst (pc := 24) (v := 3) E dX0_appendArc_24 (by decide) ?_
      refine nz_icmp_lt (pc := 25) (tgt := 31) E dX0_appendArc_25 (by decide) (fun h10 => ?_) (fun h10 => ?_)
      · have hf := nz_ite_t hf h10
        refine nz_aload_n (pc := 31) (i := 0) E dX0_appendArc_31 rfl rfl ?_
        refine nz_iload_n (pc := 32) (i := 1) E dX0_appendArc_32 rfl rfl ?_
        refine nz_iload_n (pc := 33) (i := 2) E dX0_appendArc_33 rfl rfl ?_
        obtain ⟨r11, x12, h13, hf⟩ := nz_bnd_t hf
        refine nz_callVV (pc := 34) (c0 := g) (As := [.int _, .int _]) E hg.1 rfl (k_X0_putArcBehind g hg _ _ _ _ h13) (nz_cwV E nz_w308 nz_w310 nz_w0 nz_w60 nz_w311 ds_X0_putArcBehind ⟨Nat.le_of_ble_eq_true rfl, Nat.le_of_ble_eq_true rfl⟩ rfl rfl) rfl rfl (Nat.le_of_ble_eq_true rfl) dX0_appendArc_34 ?_
        refine nz_aload_n (pc := 37) (i := 0) E dX0_appendArc_37 rfl rfl ?_
        refine nz_getR (pc := 38) (c := g) (kf := 1) E hg.1 rfl (nz_upT nz_uX0) (by decide) (List.mem_cons_of_mem _ nz_w103) rfl rfl dX0_appendArc_38 ?_
        refine nz_iload_n (pc := 41) (i := 1) E dX0_appendArc_41 rfl rfl ?_
        obtain ⟨h14, hf⟩ := nz_chk_t hf
        refine nz_iald (pc := 42) (c := (g + 2)) E hg.2.2.1 h14 dX0_appendArc_42 ?_
        exact nz_iret (pc := 43) E hR rfl hf dX0_appendArc_43
      · have hf := nz_ite_f hf h10
        refine nz_bipush (pc := 28) (v := -4) E dX0_appendArc_28 (by decide) ?_
        exact nz_iret (pc := 30) E hR rfl hf dX0_appendArc_30
    · have hf := nz_ite_t hf h8
      refine nz_iconst (pc := 16) (v := -1) E dX0_appendArc_16 (by decide) ?_
      exact nz_iret (pc := 17) E hR rfl hf dX0_appendArc_17
def f_X2_store (h : Nat) (n : Nat) (g : Nat) (a0 : Int32) (x : nz_S) : Option (Unit × nz_S) :=
  if a0 < (0 : Int32) then
    some ((), x)
  else
    if a0 < (nI n) then
      let v3 : Int32 := (a0 * (12 : Int32))
      nz_chk (nz_in a0 n) <|
      let x5 : nz_S := nz_put x (h + 1) (a0).toNatClampNeg (x.1 g 3)
      nz_chk (nz_cpok (0 : Int32) v3 (12 : Int32) 12 (n * 12)) <|
      let x7 : nz_S := nz_set x5 (h + 2) (va_cpy (x5.1 (g + 1)) (x5.1 (h + 2)) ((0 : Int32)).toNatClampNeg (v3).toNatClampNeg ((12 : Int32)).toNatClampNeg)
      nz_chk (nz_cpok (0 : Int32) v3 (12 : Int32) 12 (n * 12)) <|
      let x9 : nz_S := nz_set x7 (h + 3) (va_cpy (x7.1 (g + 2)) (x7.1 (h + 3)) ((0 : Int32)).toNatClampNeg (v3).toNatClampNeg ((12 : Int32)).toNatClampNeg)
      nz_chk (nz_cpok (0 : Int32) (v3 * (3 : Int32)) (36 : Int32) 36 (n * 36)) <|
      let x11 : nz_S := nz_set x9 (h + 4) (va_cpy (x9.1 (g + 3)) (x9.1 (h + 4)) ((0 : Int32)).toNatClampNeg ((v3 * (3 : Int32))).toNatClampNeg ((36 : Int32)).toNatClampNeg)
      some ((), x11)
    else
      some ((), x)
theorem ds_X2_store : nz_dsc yX2_store 2 := by unfold nz_dsc; decide +kernel
set_option maxHeartbeats 4000000 in
set_option maxRecDepth 20000 in
theorem k_X2_store {l : Launch} {w : nz_O} {q : Nat → Nat} (h : Nat) (n : Nat) (g : Nat) (hh : nz_isH h n) (hg : nz_isG g) (a0 : Int32) (x : nz_S) (o : Unit × nz_S) (hf : f_X2_store h n g a0 x = some o) : nz_MV l yX2_store (nz_T yX2_store cX2_store 4 (none)) (nz_R 1 40) w q nz_tK [.ref (q h), .int a0, .ref (q g)] x o := by
  refine nz_enterV (by decide) rfl (Nat.le_of_ble_eq_true rfl) rfl rfl ?_
  intro κ E hw hlq hR
  subst hw; subst hlq
  unfold f_X2_store at hf
  refine nz_weak (lv' := [(0, .ref (q h)), (1, .int a0), (2, .ref (q g))]) ⟨rfl, rfl, rfl, trivial⟩ ?_
  refine nz_iload_n (pc := 0) (i := 1) E dX2_store_0 rfl rfl ?_
  refine nz_if_lt (pc := 1) (tgt := 13) E dX2_store_1 (by decide) (fun h1 => ?_) (fun h1 => ?_)
  · have hf := nz_ite_t hf h1
    exact nz_vret (pc := 13) E hR hf dX2_store_13
  · have hf := nz_ite_f hf h1
    refine nz_iload_n (pc := 4) (i := 1) E dX2_store_4 rfl rfl ?_
    refine nz_aload_n (pc := 5) (i := 0) E dX2_store_5 rfl rfl ?_
    refine nz_getR (pc := 6) (c := h) (kf := 0) E hh.1 rfl (nz_upT nz_uX2) (by decide) (List.mem_cons_of_mem _ nz_w187) rfl rfl dX2_store_6 ?_
    refine nz_alen (pc := 9) (c := (h + 1)) E hh.2.1 dX2_store_9 ?_
    refine nz_icmp_lt (pc := 10) (tgt := 14) E dX2_store_10 (by decide) (fun h2 => ?_) (fun h2 => ?_)
    · have hf := nz_ite_t hf h2
      refine nz_iload_n (pc := 14) (i := 1) E dX2_store_14 rfl rfl ?_
      refine nz_bipush (pc := 15) (v := 12) E dX2_store_15 (by decide) ?_
      refine nz_imul (pc := 17) E dX2_store_17 ?_
      refine nz_istore_n (pc := 18) (i := 3) E dX2_store_18 rfl (by decide) rfl ?_
      refine nz_aload_n (pc := 19) (i := 0) E dX2_store_19 rfl rfl ?_
      refine nz_getR (pc := 20) (c := h) (kf := 0) E hh.1 rfl (nz_upT nz_uX2) (by decide) (List.mem_cons_of_mem _ nz_w187) rfl rfl dX2_store_20 ?_
      refine nz_iload_n (pc := 23) (i := 1) E dX2_store_23 rfl rfl ?_
      refine nz_aload_n (pc := 24) (i := 2) E dX2_store_24 rfl rfl ?_
      refine nz_getNI (pc := 25) (c := g) (kf := 3) E hg.1 rfl (nz_upT nz_uX0) (by decide) nz_n111 rfl rfl dX2_store_25 ?_
      obtain ⟨h4, hf⟩ := nz_chk_t hf
      refine nz_iast (pc := 28) (c := (h + 1)) E hh.2.1 h4 dX2_store_28 ?_
      refine nz_aload_n (pc := 29) (i := 2) E dX2_store_29 rfl rfl ?_
      refine nz_getNR (pc := 30) (c := g) (kf := 0) E hg.1 rfl (nz_upT nz_uX0) (by decide) nz_n101 rfl rfl dX2_store_30 ?_
      refine nz_iconst (pc := 33) (v := 0) E dX2_store_33 (by decide) ?_
      refine nz_aload_n (pc := 34) (i := 0) E dX2_store_34 rfl rfl ?_
      refine nz_getR (pc := 35) (c := h) (kf := 1) E hh.1 rfl (nz_upT nz_uX2) (by decide) (List.mem_cons_of_mem _ nz_w188) rfl rfl dX2_store_35 ?_
      refine nz_iload_n (pc := 38) (i := 3) E dX2_store_38 rfl rfl ?_
      refine nz_bipush (pc := 39) (v := 12) E dX2_store_39 (by decide) ?_
      obtain ⟨h6, hf⟩ := nz_chk_t hf
      refine nz_copy (pc := 41) (c1 := (g + 1)) (c2 := (h + 2)) E hg.2.1 hh.2.2.1 nz_w463 nz_w322 nz_w321 nz_w68 h6 (by decide) (by decide) dX2_store_41 ?_
      refine nz_aload_n (pc := 44) (i := 2) E dX2_store_44 rfl rfl ?_
      refine nz_getNR (pc := 45) (c := g) (kf := 1) E hg.1 rfl (nz_upT nz_uX0) (by decide) nz_n104 rfl rfl dX2_store_45 ?_
      refine nz_iconst (pc := 48) (v := 0) E dX2_store_48 (by decide) ?_
      refine nz_aload_n (pc := 49) (i := 0) E dX2_store_49 rfl rfl ?_
      refine nz_getR (pc := 50) (c := h) (kf := 2) E hh.1 rfl (nz_upT nz_uX2) (by decide) (List.mem_cons_of_mem _ nz_w189) rfl rfl dX2_store_50 ?_
      refine nz_iload_n (pc := 53) (i := 3) E dX2_store_53 rfl rfl ?_
      refine nz_bipush (pc := 54) (v := 12) E dX2_store_54 (by decide) ?_
      obtain ⟨h8, hf⟩ := nz_chk_t hf
      refine nz_copy (pc := 56) (c1 := (g + 2)) (c2 := (h + 3)) E hg.2.2.1 hh.2.2.2.1 nz_w463 nz_w322 nz_w321 nz_w68 h8 (by decide) (by decide) dX2_store_56 ?_
      refine nz_aload_n (pc := 59) (i := 2) E dX2_store_59 rfl rfl ?_
      refine nz_getNR (pc := 60) (c := g) (kf := 2) E hg.1 rfl (nz_upT nz_uX0) (by decide) nz_n108 rfl rfl dX2_store_60 ?_
      refine nz_iconst (pc := 63) (v := 0) E dX2_store_63 (by decide) ?_
      refine nz_aload_n (pc := 64) (i := 0) E dX2_store_64 rfl rfl ?_
      refine nz_getR (pc := 65) (c := h) (kf := 3) E hh.1 rfl (nz_upT nz_uX2) (by decide) (List.mem_cons_of_mem _ nz_w190) rfl rfl dX2_store_65 ?_
      refine nz_iload_n (pc := 68) (i := 3) E dX2_store_68 rfl rfl ?_
      refine nz_iconst (pc := 69) (v := 3) E dX2_store_69 (by decide) ?_
      refine nz_imul (pc := 70) E dX2_store_70 ?_
      refine nz_bipush (pc := 71) (v := 36) E dX2_store_71 (by decide) ?_
      obtain ⟨h10, hf⟩ := nz_chk_t hf
      refine nz_copy (pc := 73) (c1 := (g + 3)) (c2 := (h + 4)) E hg.2.2.2 hh.2.2.2.2 nz_w463 nz_w322 nz_w321 nz_w68 h10 (by decide) (by decide) dX2_store_73 ?_
      exact nz_vret (pc := 76) E hR hf dX2_store_76
    · have hf := nz_ite_f hf h2
      exact nz_vret (pc := 13) E hR hf dX2_store_13
def f_X1_remember (g : Nat) (x : nz_S) : Option (Unit × nz_S) :=
  let v1 : Int32 := ((x.1 20 1) + (x.1 20 2))
  nz_bnd (f_X2_store 21 14 g (v1 - v1 / (14 : Int32) * (14 : Int32)) x) fun r2 x3 =>
  if (14 : Int32) ≤ (x3.1 20 2) then
    let v6 : Int32 := ((x3.1 20 1) + (1 : Int32))
    let x7 : nz_S := nz_put x3 20 1 (v6 - v6 / (14 : Int32) * (14 : Int32))
    some ((), x7)
  else
    let x8 : nz_S := nz_put x3 20 2 ((x3.1 20 2) + (1 : Int32))
    some ((), x8)
theorem ds_X1_remember : nz_dsc yX1_remember 1 := by unfold nz_dsc; decide +kernel
set_option maxHeartbeats 4000000 in
set_option maxRecDepth 20000 in
theorem k_X1_remember {l : Launch} {w : nz_O} {q : Nat → Nat} (g : Nat) (hg : nz_isG g) (x : nz_S) (o : Unit × nz_S) (hf : f_X1_remember g x = some o) : nz_MV l yX1_remember (nz_T yX1_remember cX1_remember 2 (none)) (nz_R 2 63) w q nz_tK [.ref (q 20), .ref (q g)] x o := by
  refine nz_enterV (by decide) rfl (Nat.le_of_ble_eq_true rfl) rfl rfl ?_
  intro κ E hw hlq hR
  subst hw; subst hlq
  unfold f_X1_remember at hf
  refine nz_weak (lv' := [(0, .ref (q 20)), (1, .ref (q g))]) ⟨rfl, rfl, trivial⟩ ?_
  refine nz_aload_n (pc := 0) (i := 0) E dX1_remember_0 rfl rfl ?_
  refine nz_getR (pc := 1) (c := 20) (kf := 0) E rfl rfl (nz_upT nz_uX1) (by decide) (List.mem_cons_of_mem _ nz_w200) rfl rfl dX1_remember_1 ?_
  refine nz_aload_n (pc := 4) (i := 0) E dX1_remember_4 rfl rfl ?_
  refine nz_getI (pc := 5) (c := 20) (kf := 1) E rfl rfl (nz_upT nz_uX1) (by decide) (List.mem_cons_of_mem _ nz_w201) rfl rfl dX1_remember_5 ?_
  refine nz_aload_n (pc := 8) (i := 0) E dX1_remember_8 rfl rfl ?_
  refine nz_getI (pc := 9) (c := 20) (kf := 2) E rfl rfl (nz_upT nz_uX1) (by decide) (List.mem_cons_of_mem _ nz_w202) rfl rfl dX1_remember_9 ?_
  refine nz_iadd (pc := 12) E dX1_remember_12 ?_
  refine nz_bipush (pc := 13) (v := 14) E dX1_remember_13 (by decide) ?_
  refine nz_irem (pc := 15) E dX1_remember_15 (by decide) ?_
  refine nz_aload_n (pc := 16) (i := 1) E dX1_remember_16 rfl rfl ?_
  obtain ⟨r2, x3, h4, hf⟩ := nz_bnd_t hf
  refine nz_callVV (pc := 17) (c0 := 21) (As := [.int _, .ref (q g)]) E rfl rfl (k_X2_store 21 14 g nz_h21 hg _ _ _ h4) (nz_cwV E nz_w459 nz_w460 nz_w461 nz_w63 nz_w462 ds_X2_store ⟨Nat.le_of_ble_eq_true rfl, Nat.le_of_ble_eq_true rfl⟩ rfl rfl) rfl rfl (Nat.le_of_ble_eq_true rfl) dX1_remember_17 ?_
  refine nz_aload_n (pc := 20) (i := 0) E dX1_remember_20 rfl rfl ?_
  refine nz_getI (pc := 21) (c := 20) (kf := 2) E rfl rfl (nz_upT nz_uX1) (by decide) (List.mem_cons_of_mem _ nz_w202) rfl rfl dX1_remember_21 ?_
  refine nz_bipush (pc := 24) (v := 14) E dX1_remember_24 (by decide) ?_
  refine nz_icmp_ge (pc := 26) (tgt := 42) E dX1_remember_26 (by decide) (fun h5 => ?_) (fun h5 => ?_)
  · have hf := nz_ite_t hf h5
    refine nz_aload_n (pc := 42) (i := 0) E dX1_remember_42 rfl rfl ?_
    refine nz_aload_n (pc := 43) (i := 0) E dX1_remember_43 rfl rfl ?_
    refine nz_getI (pc := 44) (c := 20) (kf := 1) E rfl rfl (nz_upT nz_uX1) (by decide) (List.mem_cons_of_mem _ nz_w201) rfl rfl dX1_remember_44 ?_
    refine nz_iconst (pc := 47) (v := 1) E dX1_remember_47 (by decide) ?_
    refine nz_iadd (pc := 48) E dX1_remember_48 ?_
    refine nz_bipush (pc := 49) (v := 14) E dX1_remember_49 (by decide) ?_
    refine nz_irem (pc := 51) E dX1_remember_51 (by decide) ?_
    refine nz_putI (pc := 52) (c := 20) (kf := 1) E rfl rfl (nz_upT nz_uX1) (by decide) (List.mem_cons_of_mem _ nz_w201) rfl tyX1 tyX1_ok nmX1 rfl (tyX1_ok 1 (by decide)) rfl dX1_remember_52 ?_
    exact nz_vret (pc := 55) E hR hf dX1_remember_55
  · have hf := nz_ite_f hf h5
    refine nz_aload_n (pc := 29) (i := 0) E dX1_remember_29 rfl rfl ?_
    refine nz_dup (pc := 30) E dX1_remember_30 rfl ?_
    refine nz_getI (pc := 31) (c := 20) (kf := 2) E rfl rfl (nz_upT nz_uX1) (by decide) (List.mem_cons_of_mem _ nz_w202) rfl rfl dX1_remember_31 ?_
    refine nz_iconst (pc := 34) (v := 1) E dX1_remember_34 (by decide) ?_
    refine nz_iadd (pc := 35) E dX1_remember_35 ?_
    refine nz_putI (pc := 36) (c := 20) (kf := 2) E rfl rfl (nz_upT nz_uX1) (by decide) (List.mem_cons_of_mem _ nz_w202) rfl tyX1 tyX1_ok nmX1 rfl (tyX1_ok 2 (by decide)) rfl dX1_remember_36 ?_
    refine nz_goto (pc := 39) (tgt := 55) E dX1_remember_39 (by decide) ?_
    exact nz_vret (pc := 55) E hR hf dX1_remember_55
def f_X7_settle (a0 : Int32) (x : nz_S) : Option (Int32 × nz_S) :=
  if a0 < (0 : Int32) then
    some (a0, x)
  else
    nz_bnd (f_X1_remember 3  x) fun r2 x3 =>
    nz_bnd (f_X0_copyFrom 3 7  x3) fun r5 x6 =>
    some (a0, x6)
theorem ds_X7_settle : nz_dsc yX7_settle 1 := by unfold nz_dsc; decide +kernel
set_option maxHeartbeats 4000000 in
set_option maxRecDepth 20000 in
theorem k_X7_settle {l : Launch} {w : nz_O} {q : Nat → Nat} (a0 : Int32) (x : nz_S) (o : Int32 × nz_S) (hf : f_X7_settle a0 x = some o) : nz_MI l yX7_settle (nz_T yX7_settle cX7_settle 2 (some .int)) (nz_R 3 84) w q nz_tK [.ref (q 0), .int a0] x o := by
  refine nz_enterI (by decide) rfl (Nat.le_of_ble_eq_true rfl) rfl rfl ?_
  intro κ E hw hlq hR
  subst hw; subst hlq
  unfold f_X7_settle at hf
  refine nz_weak (lv' := [(0, .ref (q 0)), (1, .int a0)]) ⟨rfl, rfl, trivial⟩ ?_
  refine nz_iload_n (pc := 0) (i := 1) E dX7_settle_0 rfl rfl ?_
  refine nz_if_lt (pc := 1) (tgt := 26) E dX7_settle_1 (by decide) (fun h1 => ?_) (fun h1 => ?_)
  · have hf := nz_ite_t hf h1
    refine nz_iload_n (pc := 26) (i := 1) E dX7_settle_26 rfl rfl ?_
    exact nz_iret (pc := 27) E hR rfl hf dX7_settle_27
  · have hf := nz_ite_f hf h1
    refine nz_aload_n (pc := 4) (i := 0) E dX7_settle_4 rfl rfl ?_
    refine nz_getR (pc := 5) (c := 0) (kf := 4) E rfl rfl (nz_upT nz_uX7) (by decide) (List.mem_cons_of_mem _ nz_w252) rfl rfl dX7_settle_5 ?_
    refine nz_aload_n (pc := 8) (i := 0) E dX7_settle_8 rfl rfl ?_
    refine nz_getR (pc := 9) (c := 0) (kf := 1) E rfl rfl (nz_upT nz_uX7) (by decide) (List.mem_cons_of_mem _ nz_w249) rfl rfl dX7_settle_9 ?_
    obtain ⟨r2, x3, h4, hf⟩ := nz_bnd_t hf
    refine nz_callVV (pc := 12) (c0 := 20) (As := [.ref (q 3)]) E rfl rfl (k_X1_remember 3 nz_g3 _ _ h4) (nz_cwV E nz_w455 nz_w456 nz_w457 nz_w62 nz_w458 ds_X1_remember ⟨Nat.le_of_ble_eq_true rfl, Nat.le_of_ble_eq_true rfl⟩ rfl rfl) rfl rfl (Nat.le_of_ble_eq_true rfl) dX7_settle_12 ?_
    refine nz_aload_n (pc := 15) (i := 0) E dX7_settle_15 rfl rfl ?_
    refine nz_getR (pc := 16) (c := 0) (kf := 1) E rfl rfl (nz_upT nz_uX7) (by decide) (List.mem_cons_of_mem _ nz_w249) rfl rfl dX7_settle_16 ?_
    refine nz_aload_n (pc := 19) (i := 0) E dX7_settle_19 rfl rfl ?_
    refine nz_getR (pc := 20) (c := 0) (kf := 2) E rfl rfl (nz_upT nz_uX7) (by decide) (List.mem_cons_of_mem _ nz_w250) rfl rfl dX7_settle_20 ?_
    obtain ⟨r5, x6, h7, hf⟩ := nz_bnd_t hf
    refine nz_callVV (pc := 23) (c0 := 3) (As := [.ref (q 7)]) E rfl rfl (k_X0_copyFrom 3 7 nz_g3 nz_g7 _ _ h7) (nz_cwV E nz_w316 nz_w317 nz_w318 nz_w60 nz_w319 ds_X0_copyFrom ⟨Nat.le_of_ble_eq_true rfl, Nat.le_of_ble_eq_true rfl⟩ rfl rfl) rfl rfl (Nat.le_of_ble_eq_true rfl) dX7_settle_23 ?_
    refine nz_iload_n (pc := 26) (i := 1) E dX7_settle_26 rfl rfl ?_
    exact nz_iret (pc := 27) E hR rfl hf dX7_settle_27
def f_X7_add (a0 : Int32) (a1 : Int32) (x : nz_S) : Option (Int32 × nz_S) :=
  nz_bnd (f_X0_copyFrom 7 3  x) fun r1 x2 =>
  nz_bnd (f_X0_appendArc 7 a0 a1 x2) fun r4 x5 =>
  nz_bnd (f_X7_settle  r4 x5) fun r7 x8 =>
  some (r7, x8)
theorem ds_X7_add : nz_dsc yX7_add 2 := by unfold nz_dsc; decide +kernel
set_option maxHeartbeats 4000000 in
set_option maxRecDepth 20000 in
theorem k_X7_add {l : Launch} {w : nz_O} {q : Nat → Nat} (a0 : Int32) (a1 : Int32) (x : nz_S) (o : Int32 × nz_S) (hf : f_X7_add a0 a1 x = some o) : nz_MI l yX7_add (nz_T yX7_add cX7_add 3 (some .int)) (nz_R 4 105) w q nz_tK [.ref (q 0), .int a0, .int a1] x o := by
  refine nz_enterI (by decide) rfl (Nat.le_of_ble_eq_true rfl) rfl rfl ?_
  intro κ E hw hlq hR
  subst hw; subst hlq
  unfold f_X7_add at hf
  refine nz_weak (lv' := [(0, .ref (q 0)), (1, .int a0), (2, .int a1)]) ⟨rfl, rfl, rfl, trivial⟩ ?_
  refine nz_aload_n (pc := 0) (i := 0) E dX7_add_0 rfl rfl ?_
  refine nz_getR (pc := 1) (c := 0) (kf := 2) E rfl rfl (nz_upT nz_uX7) (by decide) (List.mem_cons_of_mem _ nz_w250) rfl rfl dX7_add_1 ?_
  refine nz_aload_n (pc := 4) (i := 0) E dX7_add_4 rfl rfl ?_
  refine nz_getR (pc := 5) (c := 0) (kf := 1) E rfl rfl (nz_upT nz_uX7) (by decide) (List.mem_cons_of_mem _ nz_w249) rfl rfl dX7_add_5 ?_
  obtain ⟨r1, x2, h3, hf⟩ := nz_bnd_t hf
  refine nz_callVV (pc := 8) (c0 := 7) (As := [.ref (q 3)]) E rfl rfl (k_X0_copyFrom 7 3 nz_g7 nz_g3 _ _ h3) (nz_cwV E nz_w316 nz_w317 nz_w318 nz_w60 nz_w319 ds_X0_copyFrom ⟨Nat.le_of_ble_eq_true rfl, Nat.le_of_ble_eq_true rfl⟩ rfl rfl) rfl rfl (Nat.le_of_ble_eq_true rfl) dX7_add_8 ?_
  refine nz_aload_n (pc := 11) (i := 0) E dX7_add_11 rfl rfl ?_
  refine nz_aload_n (pc := 12) (i := 0) E dX7_add_12 rfl rfl ?_
  refine nz_getR (pc := 13) (c := 0) (kf := 2) E rfl rfl (nz_upT nz_uX7) (by decide) (List.mem_cons_of_mem _ nz_w250) rfl rfl dX7_add_13 ?_
  refine nz_iload_n (pc := 16) (i := 1) E dX7_add_16 rfl rfl ?_
  refine nz_iload_n (pc := 17) (i := 2) E dX7_add_17 rfl rfl ?_
  obtain ⟨r4, x5, h6, hf⟩ := nz_bnd_t hf
  refine nz_callVI (pc := 18) (c0 := 7) (As := [.int _, .int _]) E rfl rfl (k_X0_appendArc 7 nz_g7 _ _ _ _ h6) (nz_cwV E nz_w447 nz_w448 nz_w449 nz_w60 nz_w450 ds_X0_appendArc ⟨Nat.le_of_ble_eq_true rfl, Nat.le_of_ble_eq_true rfl⟩ rfl rfl) rfl rfl (Nat.le_of_ble_eq_true rfl) dX7_add_18 ?_
  obtain ⟨r7, x8, h9, hf⟩ := nz_bnd_t hf
  refine nz_callVI (pc := 21) (c0 := 0) (As := [.int _]) E rfl rfl (k_X7_settle   _ _ _ h9) (nz_cwV E nz_w451 nz_w453 nz_w8 nz_w58 nz_w454 ds_X7_settle ⟨Nat.le_of_ble_eq_true rfl, Nat.le_of_ble_eq_true rfl⟩ rfl rfl) rfl rfl (Nat.le_of_ble_eq_true rfl) dX7_add_21 ?_
  exact nz_iret (pc := 24) E hR rfl hf dX7_add_24
def f_X0_keepArcs_17 (g : Nat) (c1 : Int32) (c2 : Int32) (c3 : Int32) : Nat → Int32 → nz_S → (Int32 → nz_S → Option (Unit × nz_S)) → Option (Unit × nz_S)
  | 0, _, _, _ => none
  | fu + 1, w4, x, K =>
  if c3 ≤ w4 then
    K w4 x
  else
    if ((c2 >>> (w4 &&& 31)) &&& (1 : Int32)) = (0 : Int32) then
      let v7 : Int32 := w4 + 1
      f_X0_keepArcs_17 g c1 c2 c3 fu v7 x K
    else
      nz_bnd (f_X0_target g c1 w4 x) fun r8 x9 =>
      nz_bnd (f_X0_putArcBehind g c1 r8 x9) fun r11 x12 =>
      let v14 : Int32 := w4 + 1
      f_X0_keepArcs_17 g c1 c2 c3 fu v14 x12 K
def f_X0_keepArcs (g : Nat) (a0 : Int32) (a1 : Int32) (x : nz_S) : Option (Unit × nz_S) :=
  nz_chk (nz_in a0 12) <|
  let v2 : Int32 := (x.1 (g + 2) (a0).toNatClampNeg)
  nz_chk (nz_in a0 12) <|
  let x4 : nz_S := nz_put x (g + 2) (a0).toNatClampNeg (0 : Int32)
  f_X0_keepArcs_17 g a0 a1 v2 nz_F (0 : Int32) x4 fun u16 x15 =>
    some ((), x15)
theorem ds_X0_keepArcs : nz_dsc yX0_keepArcs 2 := by unfold nz_dsc; decide +kernel
set_option maxHeartbeats 4000000 in
set_option maxRecDepth 20000 in
theorem w_X0_keepArcs_17 {κ : nz_C} {q : Nat → Nat} {o : Unit × nz_S} (g : Nat) (hg : nz_isG g) (c1 : Int32) (c2 : Int32) (c3 : Int32) (E : nz_Env κ q nz_tK 5 cX0_keepArcs RX0 (nz_T yX0_keepArcs cX0_keepArcs 5 (none)) (nz_R 1 22)) (hR : nz_RV κ q nz_tK o) : ∀ (fu : Nat) (w4 : Int32) (x : nz_S) (K : Int32 → nz_S → Option (Unit × nz_S)), f_X0_keepArcs_17 g c1 c2 c3 fu w4 x K = some o → (∀ (w4 : Int32) (x : nz_S), K w4 x = some o → nz_St κ q nz_tK 5 50 [(0, .ref (q g)), (1, .int c1), (2, .int c2), (3, .int c3), (4, .int w4)] [] x) → nz_St κ q nz_tK 5 17 [(0, .ref (q g)), (1, .int c1), (2, .int c2), (3, .int c3), (4, .int w4)] [] x := by
  intro fu
  induction fu with
  | zero => intro w4 x K hf; rw [f_X0_keepArcs_17] at hf; cases hf
  | succ fu ih =>
    intro w4 x K hf hK
    rw [f_X0_keepArcs_17] at hf
    refine nz_iload (pc := 17) (i := 4) E dX0_keepArcs_17 rfl ?_
    refine nz_iload_n (pc := 19) (i := 3) E dX0_keepArcs_19 rfl rfl ?_
    refine nz_icmp_ge (pc := 20) (tgt := 50) E dX0_keepArcs_20 (by decide) (fun h5 => ?_) (fun h5 => ?_)
    · have hf := nz_ite_t hf h5
      refine nz_weak (lv' := [(0, .ref (q g)), (1, .int _), (2, .int _), (3, .int _), (4, .int _)]) ⟨rfl, rfl, rfl, rfl, rfl, trivial⟩ ?_
      exact hK _ _ hf
    · have hf := nz_ite_f hf h5
      refine nz_iload_n (pc := 23) (i := 2) E dX0_keepArcs_23 rfl rfl ?_
      refine nz_iload (pc := 24) (i := 4) E dX0_keepArcs_24 rfl ?_
      refine nz_ishr (pc := 26) E dX0_keepArcs_26 ?_
      refine nz_iconst (pc := 27) (v := 1) E dX0_keepArcs_27 (by decide) ?_
      refine nz_iand (pc := 28) E dX0_keepArcs_28 ?_
      refine nz_if_eq (pc := 29) (tgt := 44) E dX0_keepArcs_29 (by decide) (fun h6 => ?_) (fun h6 => ?_)
      · have hf := nz_ite_t hf h6
        refine nz_iinc (pc := 44) (i := 4) (w := 1) E dX0_keepArcs_44 rfl (by decide) (by decide) rfl ?_
        refine nz_goto (pc := 47) (tgt := 17) E dX0_keepArcs_47 (by decide) ?_
        refine nz_weak (lv' := [(0, .ref (q g)), (1, .int _), (2, .int _), (3, .int _), (4, .int _)]) ⟨rfl, rfl, rfl, rfl, rfl, trivial⟩ ?_
        exact ih _ _ _ hf hK
      · have hf := nz_ite_f hf h6
        refine nz_aload_n (pc := 32) (i := 0) E dX0_keepArcs_32 rfl rfl ?_
        refine nz_iload_n (pc := 33) (i := 1) E dX0_keepArcs_33 rfl rfl ?_
        refine nz_aload_n (pc := 34) (i := 0) E dX0_keepArcs_34 rfl rfl ?_
        refine nz_iload_n (pc := 35) (i := 1) E dX0_keepArcs_35 rfl rfl ?_
        refine nz_iload (pc := 36) (i := 4) E dX0_keepArcs_36 rfl ?_
        obtain ⟨r8, x9, h10, hf⟩ := nz_bnd_t hf
        refine nz_callVI (pc := 38) (c0 := g) (As := [.int _, .int _]) E hg.1 rfl (k_X0_target g hg _ _ _ _ h10) (nz_cwV E nz_w473 nz_w358 nz_w359 nz_w60 nz_w360 ds_X0_target ⟨Nat.le_of_ble_eq_true rfl, Nat.le_of_ble_eq_true rfl⟩ rfl rfl) rfl rfl (Nat.le_of_ble_eq_true rfl) dX0_keepArcs_38 ?_
        obtain ⟨r11, x12, h13, hf⟩ := nz_bnd_t hf
        refine nz_callVV (pc := 41) (c0 := g) (As := [.int _, .int _]) E hg.1 rfl (k_X0_putArcBehind g hg _ _ _ _ h13) (nz_cwV E nz_w308 nz_w310 nz_w0 nz_w60 nz_w311 ds_X0_putArcBehind ⟨Nat.le_of_ble_eq_true rfl, Nat.le_of_ble_eq_true rfl⟩ rfl rfl) rfl rfl (Nat.le_of_ble_eq_true rfl) dX0_keepArcs_41 ?_
        refine nz_iinc (pc := 44) (i := 4) (w := 1) E dX0_keepArcs_44 rfl (by decide) (by decide) rfl ?_
        refine nz_goto (pc := 47) (tgt := 17) E dX0_keepArcs_47 (by decide) ?_
        refine nz_weak (lv' := [(0, .ref (q g)), (1, .int _), (2, .int _), (3, .int _), (4, .int _)]) ⟨rfl, rfl, rfl, rfl, rfl, trivial⟩ ?_
        exact ih _ _ _ hf hK
set_option maxHeartbeats 4000000 in
set_option maxRecDepth 20000 in
theorem k_X0_keepArcs {l : Launch} {w : nz_O} {q : Nat → Nat} (g : Nat) (hg : nz_isG g) (a0 : Int32) (a1 : Int32) (x : nz_S) (o : Unit × nz_S) (hf : f_X0_keepArcs g a0 a1 x = some o) : nz_MV l yX0_keepArcs (nz_T yX0_keepArcs cX0_keepArcs 5 (none)) (nz_R 1 22) w q nz_tK [.ref (q g), .int a0, .int a1] x o := by
  refine nz_enterV (by decide) rfl (Nat.le_of_ble_eq_true rfl) rfl rfl ?_
  intro κ E hw hlq hR
  subst hw; subst hlq
  unfold f_X0_keepArcs at hf
  refine nz_weak (lv' := [(0, .ref (q g)), (1, .int a0), (2, .int a1)]) ⟨rfl, rfl, rfl, trivial⟩ ?_
  refine nz_aload_n (pc := 0) (i := 0) E dX0_keepArcs_0 rfl rfl ?_
  refine nz_getR (pc := 1) (c := g) (kf := 1) E hg.1 rfl (nz_upT nz_uX0) (by decide) (List.mem_cons_of_mem _ nz_w103) rfl rfl dX0_keepArcs_1 ?_
  refine nz_iload_n (pc := 4) (i := 1) E dX0_keepArcs_4 rfl rfl ?_
  obtain ⟨h1, hf⟩ := nz_chk_t hf
  refine nz_iald (pc := 5) (c := (g + 2)) E hg.2.2.1 h1 dX0_keepArcs_5 ?_
  refine nz_istore_n (pc := 6) (i := 3) E dX0_keepArcs_6 rfl (by decide) rfl ?_
  refine nz_aload_n (pc := 7) (i := 0) E dX0_keepArcs_7 rfl rfl ?_
  refine nz_getR (pc := 8) (c := g) (kf := 1) E hg.1 rfl (nz_upT nz_uX0) (by decide) (List.mem_cons_of_mem _ nz_w103) rfl rfl dX0_keepArcs_8 ?_
  refine nz_iload_n (pc := 11) (i := 1) E dX0_keepArcs_11 rfl rfl ?_
  refine nz_iconst (pc := 12) (v := 0) E dX0_keepArcs_12 (by decide) ?_
  obtain ⟨h3, hf⟩ := nz_chk_t hf
  refine nz_iast (pc := 13) (c := (g + 2)) E hg.2.2.1 h3 dX0_keepArcs_13 ?_
  refine nz_iconst (pc := 14) (v := 0) E dX0_keepArcs_14 (by decide) ?_
  refine nz_istore (pc := 15) (i := 4) E dX0_keepArcs_15 (by decide) rfl ?_
  refine nz_weak (lv' := [(0, .ref (q g)), (1, .int _), (2, .int _), (3, .int _), (4, .int _)]) ⟨rfl, rfl, rfl, rfl, rfl, trivial⟩ ?_
  refine w_X0_keepArcs_17 g hg _ _ _ E hR _ _ _ _ hf (fun u16 x15 hf => ?_)
  exact nz_vret (pc := 50) E hR hf dX0_keepArcs_50
def f_X0_dropArc (g : Nat) (a0 : Int32) (a1 : Int32) (x : nz_S) : Option (Int32 × nz_S) :=
  nz_bnd (f_X0_hasArc g a0 a1 x) fun r1 x2 =>
  if r1 = (0 : Int32) then
    some ((-1 : Int32), x2)
  else
    nz_bnd (f_X0_target g a0 a1 x2) fun r5 x6 =>
    nz_bnd (f_X0_keepArcs g a0 (((1 : Int32) <<< (a1 &&& 31)) ^^^ (-1 : Int32)) x6) fun r8 x9 =>
    some (r5, x9)
theorem ds_X0_dropArc : nz_dsc yX0_dropArc 2 := by unfold nz_dsc; decide +kernel
set_option maxHeartbeats 4000000 in
set_option maxRecDepth 20000 in
theorem k_X0_dropArc {l : Launch} {w : nz_O} {q : Nat → Nat} (g : Nat) (hg : nz_isG g) (a0 : Int32) (a1 : Int32) (x : nz_S) (o : Int32 × nz_S) (hf : f_X0_dropArc g a0 a1 x = some o) : nz_MI l yX0_dropArc (nz_T yX0_dropArc cX0_dropArc 4 (some .int)) (nz_R 2 46) w q nz_tK [.ref (q g), .int a0, .int a1] x o := by
  refine nz_enterI (by decide) rfl (Nat.le_of_ble_eq_true rfl) rfl rfl ?_
  intro κ E hw hlq hR
  subst hw; subst hlq
  unfold f_X0_dropArc at hf
  refine nz_weak (lv' := [(0, .ref (q g)), (1, .int a0), (2, .int a1)]) ⟨rfl, rfl, rfl, trivial⟩ ?_
  refine nz_aload_n (pc := 0) (i := 0) E dX0_dropArc_0 rfl rfl ?_
  refine nz_iload_n (pc := 1) (i := 1) E dX0_dropArc_1 rfl rfl ?_
  refine nz_iload_n (pc := 2) (i := 2) E dX0_dropArc_2 rfl rfl ?_
  obtain ⟨r1, x2, h3, hf⟩ := nz_bnd_t hf
  refine nz_callVI (pc := 3) (c0 := g) (As := [.int _, .int _]) E hg.1 rfl (k_X0_hasArc g hg _ _ _ _ h3) (nz_cwV E nz_w472 nz_w428 nz_w429 nz_w60 nz_w430 ds_X0_hasArc ⟨Nat.le_of_ble_eq_true rfl, Nat.le_of_ble_eq_true rfl⟩ rfl rfl) rfl rfl (Nat.le_of_ble_eq_true rfl) dX0_dropArc_3 ?_
  refine nz_if_ne (pc := 6) (tgt := 11) E dX0_dropArc_6 (by decide) (fun h4 => ?_) (fun h4 => ?_)
  · have hf := nz_ite_f hf h4
    refine nz_aload_n (pc := 11) (i := 0) E dX0_dropArc_11 rfl rfl ?_
    refine nz_iload_n (pc := 12) (i := 1) E dX0_dropArc_12 rfl rfl ?_
    refine nz_iload_n (pc := 13) (i := 2) E dX0_dropArc_13 rfl rfl ?_
    obtain ⟨r5, x6, h7, hf⟩ := nz_bnd_t hf
    refine nz_callVI (pc := 14) (c0 := g) (As := [.int _, .int _]) E hg.1 rfl (k_X0_target g hg _ _ _ _ h7) (nz_cwV E nz_w473 nz_w358 nz_w359 nz_w60 nz_w360 ds_X0_target ⟨Nat.le_of_ble_eq_true rfl, Nat.le_of_ble_eq_true rfl⟩ rfl rfl) rfl rfl (Nat.le_of_ble_eq_true rfl) dX0_dropArc_14 ?_
    refine nz_istore_n (pc := 17) (i := 3) E dX0_dropArc_17 rfl (by decide) rfl ?_
    refine nz_aload_n (pc := 18) (i := 0) E dX0_dropArc_18 rfl rfl ?_
    refine nz_iload_n (pc := 19) (i := 1) E dX0_dropArc_19 rfl rfl ?_
    refine nz_iconst (pc := 20) (v := 1) E dX0_dropArc_20 (by decide) ?_
    refine nz_iload_n (pc := 21) (i := 2) E dX0_dropArc_21 rfl rfl ?_
    refine nz_ishl (pc := 22) E dX0_dropArc_22 ?_
    refine nz_iconst (pc := 23) (v := -1) E dX0_dropArc_23 (by decide) ?_
    refine nz_ixor (pc := 24) E dX0_dropArc_24 ?_
    obtain ⟨r8, x9, h10, hf⟩ := nz_bnd_t hf
    refine nz_callVV (pc := 25) (c0 := g) (As := [.int _, .int _]) E hg.1 rfl (k_X0_keepArcs g hg _ _ _ _ h10) (nz_cwV E nz_w474 nz_w475 nz_w476 nz_w60 nz_w477 ds_X0_keepArcs ⟨Nat.le_of_ble_eq_true rfl, Nat.le_of_ble_eq_true rfl⟩ rfl rfl) rfl rfl (Nat.le_of_ble_eq_true rfl) dX0_dropArc_25 ?_
    refine nz_iload_n (pc := 28) (i := 3) E dX0_dropArc_28 rfl rfl ?_
    exact nz_iret (pc := 29) E hR rfl hf dX0_dropArc_29
  · have hf := nz_ite_t hf h4
    refine nz_iconst (pc := 9) (v := -1) E dX0_dropArc_9 (by decide) ?_
    exact nz_iret (pc := 10) E hR rfl hf dX0_dropArc_10
def f_X7_cut (a0 : Int32) (a1 : Int32) (x : nz_S) : Option (Int32 × nz_S) :=
  nz_bnd (f_X0_copyFrom 7 3  x) fun r1 x2 =>
  nz_bnd (f_X0_dropArc 7 a0 a1 x2) fun r4 x5 =>
  nz_bnd (f_X7_settle  r4 x5) fun r7 x8 =>
  some (r7, x8)
theorem ds_X7_cut : nz_dsc yX7_cut 2 := by unfold nz_dsc; decide +kernel
set_option maxHeartbeats 4000000 in
set_option maxRecDepth 20000 in
theorem k_X7_cut {l : Launch} {w : nz_O} {q : Nat → Nat} (a0 : Int32) (a1 : Int32) (x : nz_S) (o : Int32 × nz_S) (hf : f_X7_cut a0 a1 x = some o) : nz_MI l yX7_cut (nz_T yX7_cut cX7_cut 3 (some .int)) (nz_R 4 105) w q nz_tK [.ref (q 0), .int a0, .int a1] x o := by
  refine nz_enterI (by decide) rfl (Nat.le_of_ble_eq_true rfl) rfl rfl ?_
  intro κ E hw hlq hR
  subst hw; subst hlq
  unfold f_X7_cut at hf
  refine nz_weak (lv' := [(0, .ref (q 0)), (1, .int a0), (2, .int a1)]) ⟨rfl, rfl, rfl, trivial⟩ ?_
  refine nz_aload_n (pc := 0) (i := 0) E dX7_cut_0 rfl rfl ?_
  refine nz_getR (pc := 1) (c := 0) (kf := 2) E rfl rfl (nz_upT nz_uX7) (by decide) (List.mem_cons_of_mem _ nz_w250) rfl rfl dX7_cut_1 ?_
  refine nz_aload_n (pc := 4) (i := 0) E dX7_cut_4 rfl rfl ?_
  refine nz_getR (pc := 5) (c := 0) (kf := 1) E rfl rfl (nz_upT nz_uX7) (by decide) (List.mem_cons_of_mem _ nz_w249) rfl rfl dX7_cut_5 ?_
  obtain ⟨r1, x2, h3, hf⟩ := nz_bnd_t hf
  refine nz_callVV (pc := 8) (c0 := 7) (As := [.ref (q 3)]) E rfl rfl (k_X0_copyFrom 7 3 nz_g7 nz_g3 _ _ h3) (nz_cwV E nz_w316 nz_w317 nz_w318 nz_w60 nz_w319 ds_X0_copyFrom ⟨Nat.le_of_ble_eq_true rfl, Nat.le_of_ble_eq_true rfl⟩ rfl rfl) rfl rfl (Nat.le_of_ble_eq_true rfl) dX7_cut_8 ?_
  refine nz_aload_n (pc := 11) (i := 0) E dX7_cut_11 rfl rfl ?_
  refine nz_aload_n (pc := 12) (i := 0) E dX7_cut_12 rfl rfl ?_
  refine nz_getR (pc := 13) (c := 0) (kf := 2) E rfl rfl (nz_upT nz_uX7) (by decide) (List.mem_cons_of_mem _ nz_w250) rfl rfl dX7_cut_13 ?_
  refine nz_iload_n (pc := 16) (i := 1) E dX7_cut_16 rfl rfl ?_
  refine nz_iload_n (pc := 17) (i := 2) E dX7_cut_17 rfl rfl ?_
  obtain ⟨r4, x5, h6, hf⟩ := nz_bnd_t hf
  refine nz_callVI (pc := 18) (c0 := 7) (As := [.int _, .int _]) E rfl rfl (k_X0_dropArc 7 nz_g7 _ _ _ _ h6) (nz_cwV E nz_w468 nz_w469 nz_w470 nz_w60 nz_w471 ds_X0_dropArc ⟨Nat.le_of_ble_eq_true rfl, Nat.le_of_ble_eq_true rfl⟩ rfl rfl) rfl rfl (Nat.le_of_ble_eq_true rfl) dX7_cut_18 ?_
  obtain ⟨r7, x8, h9, hf⟩ := nz_bnd_t hf
  refine nz_callVI (pc := 21) (c0 := 0) (As := [.int _]) E rfl rfl (k_X7_settle   _ _ _ h9) (nz_cwV E nz_w451 nz_w453 nz_w8 nz_w58 nz_w454 ds_X7_settle ⟨Nat.le_of_ble_eq_true rfl, Nat.le_of_ble_eq_true rfl⟩ rfl rfl) rfl rfl (Nat.le_of_ble_eq_true rfl) dX7_cut_21 ?_
  exact nz_iret (pc := 24) E hR rfl hf dX7_cut_24
def f_X0_goesTo_2 (g : Nat) (c1 : Int32) (c2 : Int32) : Nat → Int32 → nz_S → (Int32 → nz_S → Option (Int32 × nz_S)) → Option (Int32 × nz_S)
  | 0, _, _, _ => none
  | fu + 1, w3, x, K =>
  nz_chk (nz_in c1 12) <|
  if (x.1 (g + 2) (c1).toNatClampNeg) ≤ w3 then
    K w3 x
  else
    nz_bnd (f_X0_target g c1 w3 x) fun r3 x4 =>
    if r3 = c2 then
      some ((1 : Int32), x4)
    else
      let v7 : Int32 := w3 + 1
      f_X0_goesTo_2 g c1 c2 fu v7 x4 K
def f_X0_goesTo (g : Nat) (a0 : Int32) (a1 : Int32) (x : nz_S) : Option (Int32 × nz_S) :=
  f_X0_goesTo_2 g a0 a1 nz_F (0 : Int32) x fun u9 x8 =>
    some ((0 : Int32), x8)
theorem ds_X0_goesTo : nz_dsc yX0_goesTo 2 := by unfold nz_dsc; decide +kernel
set_option maxHeartbeats 4000000 in
set_option maxRecDepth 20000 in
theorem w_X0_goesTo_2 {κ : nz_C} {q : Nat → Nat} {o : Int32 × nz_S} (g : Nat) (hg : nz_isG g) (c1 : Int32) (c2 : Int32) (E : nz_Env κ q nz_tK 4 cX0_goesTo RX0 (nz_T yX0_goesTo cX0_goesTo 4 (some .boolean)) (nz_R 1 22)) (hR : nz_RI κ q nz_tK .boolean o) : ∀ (fu : Nat) (w3 : Int32) (x : nz_S) (K : Int32 → nz_S → Option (Int32 × nz_S)), f_X0_goesTo_2 g c1 c2 fu w3 x K = some o → (∀ (w3 : Int32) (x : nz_S), K w3 x = some o → nz_St κ q nz_tK 4 30 [(0, .ref (q g)), (1, .int c1), (2, .int c2), (3, .int w3)] [] x) → nz_St κ q nz_tK 4 2 [(0, .ref (q g)), (1, .int c1), (2, .int c2), (3, .int w3)] [] x := by
  intro fu
  induction fu with
  | zero => intro w3 x K hf; rw [f_X0_goesTo_2] at hf; cases hf
  | succ fu ih =>
    intro w3 x K hf hK
    rw [f_X0_goesTo_2] at hf
    refine nz_iload_n (pc := 2) (i := 3) E dX0_goesTo_2 rfl rfl ?_
    refine nz_aload_n (pc := 3) (i := 0) E dX0_goesTo_3 rfl rfl ?_
    refine nz_getR (pc := 4) (c := g) (kf := 1) E hg.1 rfl (nz_upT nz_uX0) (by decide) (List.mem_cons_of_mem _ nz_w103) rfl rfl dX0_goesTo_4 ?_
    refine nz_iload_n (pc := 7) (i := 1) E dX0_goesTo_7 rfl rfl ?_
    obtain ⟨h1, hf⟩ := nz_chk_t hf
    refine nz_iald (pc := 8) (c := (g + 2)) E hg.2.2.1 h1 dX0_goesTo_8 ?_
    refine nz_icmp_ge (pc := 9) (tgt := 30) E dX0_goesTo_9 (by decide) (fun h2 => ?_) (fun h2 => ?_)
    · have hf := nz_ite_t hf h2
      refine nz_weak (lv' := [(0, .ref (q g)), (1, .int _), (2, .int _), (3, .int _)]) ⟨rfl, rfl, rfl, rfl, trivial⟩ ?_
      exact hK _ _ hf
    · have hf := nz_ite_f hf h2
      refine nz_aload_n (pc := 12) (i := 0) E dX0_goesTo_12 rfl rfl ?_
      refine nz_iload_n (pc := 13) (i := 1) E dX0_goesTo_13 rfl rfl ?_
      refine nz_iload_n (pc := 14) (i := 3) E dX0_goesTo_14 rfl rfl ?_
      obtain ⟨r3, x4, h5, hf⟩ := nz_bnd_t hf
      refine nz_callVI (pc := 15) (c0 := g) (As := [.int _, .int _]) E hg.1 rfl (k_X0_target g hg _ _ _ _ h5) (nz_cwV E nz_w473 nz_w358 nz_w359 nz_w60 nz_w360 ds_X0_target ⟨Nat.le_of_ble_eq_true rfl, Nat.le_of_ble_eq_true rfl⟩ rfl rfl) rfl rfl (Nat.le_of_ble_eq_true rfl) dX0_goesTo_15 ?_
      refine nz_iload_n (pc := 18) (i := 2) E dX0_goesTo_18 rfl rfl ?_
      refine nz_icmp_ne (pc := 19) (tgt := 24) E dX0_goesTo_19 (by decide) (fun h6 => ?_) (fun h6 => ?_)
      · have hf := nz_ite_f hf h6
        refine nz_iinc (pc := 24) (i := 3) (w := 1) E dX0_goesTo_24 rfl (by decide) (by decide) rfl ?_
        refine nz_goto (pc := 27) (tgt := 2) E dX0_goesTo_27 (by decide) ?_
        refine nz_weak (lv' := [(0, .ref (q g)), (1, .int _), (2, .int _), (3, .int _)]) ⟨rfl, rfl, rfl, rfl, trivial⟩ ?_
        exact ih _ _ _ hf hK
      · have hf := nz_ite_t hf h6
        refine nz_iconst (pc := 22) (v := 1) E dX0_goesTo_22 (by decide) ?_
        exact nz_iret (pc := 23) E hR rfl hf dX0_goesTo_23
set_option maxHeartbeats 4000000 in
set_option maxRecDepth 20000 in
theorem k_X0_goesTo {l : Launch} {w : nz_O} {q : Nat → Nat} (g : Nat) (hg : nz_isG g) (a0 : Int32) (a1 : Int32) (x : nz_S) (o : Int32 × nz_S) (hf : f_X0_goesTo g a0 a1 x = some o) : nz_MI l yX0_goesTo (nz_T yX0_goesTo cX0_goesTo 4 (some .boolean)) (nz_R 1 22) w q nz_tK [.ref (q g), .int a0, .int a1] x o := by
  refine nz_enterI (by decide) rfl (Nat.le_of_ble_eq_true rfl) rfl rfl ?_
  intro κ E hw hlq hR
  subst hw; subst hlq
  unfold f_X0_goesTo at hf
  refine nz_weak (lv' := [(0, .ref (q g)), (1, .int a0), (2, .int a1)]) ⟨rfl, rfl, rfl, trivial⟩ ?_
  refine nz_iconst (pc := 0) (v := 0) E dX0_goesTo_0 (by decide) ?_
  refine nz_istore_n (pc := 1) (i := 3) E dX0_goesTo_1 rfl (by decide) rfl ?_
  refine nz_weak (lv' := [(0, .ref (q g)), (1, .int _), (2, .int _), (3, .int _)]) ⟨rfl, rfl, rfl, rfl, trivial⟩ ?_
  refine w_X0_goesTo_2 g hg _ _ E hR _ _ _ _ hf (fun u9 x8 hf => ?_)
  refine nz_iconst (pc := 30) (v := 0) E dX0_goesTo_30 (by decide) ?_
  exact nz_iret (pc := 31) E hR rfl hf dX0_goesTo_31
def f_X0_turnArcs_3 (g : Nat) (c1 : Int32) (c2 : Int32) (c3 : Int32) : Nat → Int32 → nz_S → (Int32 → nz_S → Option (Unit × nz_S)) → Option (Unit × nz_S)
  | 0, _, _, _ => none
  | fu + 1, w4, x, K =>
  nz_chk (nz_in c1 12) <|
  if (x.1 (g + 2) (c1).toNatClampNeg) ≤ w4 then
    K w4 x
  else
    nz_bnd (f_X0_target g c1 w4 x) fun r3 x4 =>
    if r3 = c2 then
      let v8 : Int32 := ((c1 * (3 : Int32)) + w4)
      nz_chk (nz_in v8 36) <|
      let x10 : nz_S := nz_put x4 (g + 3) (v8).toNatClampNeg c3
      let v11 : Int32 := w4 + 1
      f_X0_turnArcs_3 g c1 c2 c3 fu v11 x10 K
    else
      let v7 : Int32 := w4 + 1
      f_X0_turnArcs_3 g c1 c2 c3 fu v7 x4 K
def f_X0_turnArcs (g : Nat) (a0 : Int32) (a1 : Int32) (a2 : Int32) (x : nz_S) : Option (Unit × nz_S) :=
  f_X0_turnArcs_3 g a0 a1 a2 nz_F (0 : Int32) x fun u13 x12 =>
    some ((), x12)
theorem ds_X0_turnArcs : nz_dsc yX0_turnArcs 3 := by unfold nz_dsc; decide +kernel
set_option maxHeartbeats 4000000 in
set_option maxRecDepth 20000 in
theorem w_X0_turnArcs_3 {κ : nz_C} {q : Nat → Nat} {o : Unit × nz_S} (g : Nat) (hg : nz_isG g) (c1 : Int32) (c2 : Int32) (c3 : Int32) (E : nz_Env κ q nz_tK 5 cX0_turnArcs RX0 (nz_T yX0_turnArcs cX0_turnArcs 5 (none)) (nz_R 1 22)) (hR : nz_RV κ q nz_tK o) : ∀ (fu : Nat) (w4 : Int32) (x : nz_S) (K : Int32 → nz_S → Option (Unit × nz_S)), f_X0_turnArcs_3 g c1 c2 c3 fu w4 x K = some o → (∀ (w4 : Int32) (x : nz_S), K w4 x = some o → nz_St κ q nz_tK 5 43 [(0, .ref (q g)), (1, .int c1), (2, .int c2), (3, .int c3), (4, .int w4)] [] x) → nz_St κ q nz_tK 5 3 [(0, .ref (q g)), (1, .int c1), (2, .int c2), (3, .int c3), (4, .int w4)] [] x := by
  intro fu
  induction fu with
  | zero => intro w4 x K hf; rw [f_X0_turnArcs_3] at hf; cases hf
  | succ fu ih =>
    intro w4 x K hf hK
    rw [f_X0_turnArcs_3] at hf
    refine nz_iload (pc := 3) (i := 4) E dX0_turnArcs_3 rfl ?_
    refine nz_aload_n (pc := 5) (i := 0) E dX0_turnArcs_5 rfl rfl ?_
    refine nz_getR (pc := 6) (c := g) (kf := 1) E hg.1 rfl (nz_upT nz_uX0) (by decide) (List.mem_cons_of_mem _ nz_w103) rfl rfl dX0_turnArcs_6 ?_
    refine nz_iload_n (pc := 9) (i := 1) E dX0_turnArcs_9 rfl rfl ?_
    obtain ⟨h1, hf⟩ := nz_chk_t hf
    refine nz_iald (pc := 10) (c := (g + 2)) E hg.2.2.1 h1 dX0_turnArcs_10 ?_
    refine nz_icmp_ge (pc := 11) (tgt := 43) E dX0_turnArcs_11 (by decide) (fun h2 => ?_) (fun h2 => ?_)
    · have hf := nz_ite_t hf h2
      refine nz_weak (lv' := [(0, .ref (q g)), (1, .int _), (2, .int _), (3, .int _), (4, .int _)]) ⟨rfl, rfl, rfl, rfl, rfl, trivial⟩ ?_
      exact hK _ _ hf
    · have hf := nz_ite_f hf h2
      refine nz_aload_n (pc := 14) (i := 0) E dX0_turnArcs_14 rfl rfl ?_
      refine nz_iload_n (pc := 15) (i := 1) E dX0_turnArcs_15 rfl rfl ?_
      refine nz_iload (pc := 16) (i := 4) E dX0_turnArcs_16 rfl ?_
      obtain ⟨r3, x4, h5, hf⟩ := nz_bnd_t hf
      refine nz_callVI (pc := 18) (c0 := g) (As := [.int _, .int _]) E hg.1 rfl (k_X0_target g hg _ _ _ _ h5) (nz_cwV E nz_w473 nz_w358 nz_w359 nz_w60 nz_w360 ds_X0_target ⟨Nat.le_of_ble_eq_true rfl, Nat.le_of_ble_eq_true rfl⟩ rfl rfl) rfl rfl (Nat.le_of_ble_eq_true rfl) dX0_turnArcs_18 ?_
      refine nz_iload_n (pc := 21) (i := 2) E dX0_turnArcs_21 rfl rfl ?_
      refine nz_icmp_ne (pc := 22) (tgt := 37) E dX0_turnArcs_22 (by decide) (fun h6 => ?_) (fun h6 => ?_)
      · have hf := nz_ite_f hf h6
        refine nz_iinc (pc := 37) (i := 4) (w := 1) E dX0_turnArcs_37 rfl (by decide) (by decide) rfl ?_
        refine nz_goto (pc := 40) (tgt := 3) E dX0_turnArcs_40 (by decide) ?_
        refine nz_weak (lv' := [(0, .ref (q g)), (1, .int _), (2, .int _), (3, .int _), (4, .int _)]) ⟨rfl, rfl, rfl, rfl, rfl, trivial⟩ ?_
        exact ih _ _ _ hf hK
      · have hf := nz_ite_t hf h6
        refine nz_aload_n (pc := 25) (i := 0) E dX0_turnArcs_25 rfl rfl ?_
        refine nz_getR (pc := 26) (c := g) (kf := 2) E hg.1 rfl (nz_upT nz_uX0) (by decide) (List.mem_cons_of_mem _ nz_w107) rfl rfl dX0_turnArcs_26 ?_
        refine nz_iload_n (pc := 29) (i := 1) E dX0_turnArcs_29 rfl rfl ?_
        refine nz_iconst (pc := 30) (v := 3) E dX0_turnArcs_30 (by decide) ?_
        refine nz_imul (pc := 31) E dX0_turnArcs_31 ?_
        refine nz_iload (pc := 32) (i := 4) E dX0_turnArcs_32 rfl ?_
        refine nz_iadd (pc := 34) E dX0_turnArcs_34 ?_
        refine nz_iload_n (pc := 35) (i := 3) E dX0_turnArcs_35 rfl rfl ?_
        obtain ⟨h9, hf⟩ := nz_chk_t hf
        refine nz_iast (pc := 36) (c := (g + 3)) E hg.2.2.2 h9 dX0_turnArcs_36 ?_
        refine nz_iinc (pc := 37) (i := 4) (w := 1) E dX0_turnArcs_37 rfl (by decide) (by decide) rfl ?_
        refine nz_goto (pc := 40) (tgt := 3) E dX0_turnArcs_40 (by decide) ?_
        refine nz_weak (lv' := [(0, .ref (q g)), (1, .int _), (2, .int _), (3, .int _), (4, .int _)]) ⟨rfl, rfl, rfl, rfl, rfl, trivial⟩ ?_
        exact ih _ _ _ hf hK
set_option maxHeartbeats 4000000 in
set_option maxRecDepth 20000 in
theorem k_X0_turnArcs {l : Launch} {w : nz_O} {q : Nat → Nat} (g : Nat) (hg : nz_isG g) (a0 : Int32) (a1 : Int32) (a2 : Int32) (x : nz_S) (o : Unit × nz_S) (hf : f_X0_turnArcs g a0 a1 a2 x = some o) : nz_MV l yX0_turnArcs (nz_T yX0_turnArcs cX0_turnArcs 5 (none)) (nz_R 1 22) w q nz_tK [.ref (q g), .int a0, .int a1, .int a2] x o := by
  refine nz_enterV (by decide) rfl (Nat.le_of_ble_eq_true rfl) rfl rfl ?_
  intro κ E hw hlq hR
  subst hw; subst hlq
  unfold f_X0_turnArcs at hf
  refine nz_weak (lv' := [(0, .ref (q g)), (1, .int a0), (2, .int a1), (3, .int a2)]) ⟨rfl, rfl, rfl, rfl, trivial⟩ ?_
  refine nz_iconst (pc := 0) (v := 0) E dX0_turnArcs_0 (by decide) ?_
  refine nz_istore (pc := 1) (i := 4) E dX0_turnArcs_1 (by decide) rfl ?_
  refine nz_weak (lv' := [(0, .ref (q g)), (1, .int _), (2, .int _), (3, .int _), (4, .int _)]) ⟨rfl, rfl, rfl, rfl, rfl, trivial⟩ ?_
  refine w_X0_turnArcs_3 g hg _ _ _ E hR _ _ _ _ hf (fun u13 x12 hf => ?_)
  exact nz_vret (pc := 43) E hR hf dX0_turnArcs_43
def f_X0_copyBlockFor_62 (g : Nat) (c1 : Int32) (c2 : Int32) (c3 : Int32) (c4 : Int32) : Nat → Int32 → nz_S → (Int32 → nz_S → Option (Int32 × nz_S)) → Option (Int32 × nz_S)
  | 0, _, _, _ => none
  | fu + 1, w5, x, K =>
  if c4 ≤ w5 then
    K w5 x
  else
    nz_bnd (f_X0_target g c2 w5 x) fun r22 x23 =>
    nz_bnd (f_X0_putArcBehind g c3 r22 x23) fun r25 x26 =>
    let v28 : Int32 := w5 + 1
    f_X0_copyBlockFor_62 g c1 c2 c3 c4 fu v28 x26 K
def f_X0_copyBlockFor (g : Nat) (a0 : Int32) (a1 : Int32) (x : nz_S) : Option (Int32 × nz_S) :=
  nz_bnd (f_X0_hasBlock g a0 x) fun r1 x2 =>
  if r1 = (0 : Int32) then
    some ((-1 : Int32), x2)
  else
    nz_bnd (f_X0_hasBlock g a1 x2) fun r5 x6 =>
    if r5 = (0 : Int32) then
      some ((-1 : Int32), x6)
    else
      nz_bnd (f_X0_goesTo g a0 a1 x6) fun r9 x10 =>
      if r9 = (0 : Int32) then
        some ((-3 : Int32), x10)
      else
        let v13 : Int32 := (x10.1 g 3)
        nz_chk (nz_in a1 12) <|
        nz_bnd (f_X0_appendBlock g (x10.1 (g + 1) (a1).toNatClampNeg) x10) fun r15 x16 =>
        if r15 = (0 : Int32) then
          some ((-4 : Int32), x16)
        else
          nz_chk (nz_in a1 12) <|
          let v20 : Int32 := (x16.1 (g + 2) (a1).toNatClampNeg)
          f_X0_copyBlockFor_62 g a0 a1 v13 v20 nz_F (0 : Int32) x16 fun u30 x29 =>
            nz_bnd (f_X0_turnArcs g a0 a1 v13 x29) fun r31 x32 =>
            some (v13, x32)
theorem ds_X0_copyBlockFor : nz_dsc yX0_copyBlockFor 2 := by unfold nz_dsc; decide +kernel
set_option maxHeartbeats 4000000 in
set_option maxRecDepth 20000 in
theorem w_X0_copyBlockFor_62 {κ : nz_C} {q : Nat → Nat} {o : Int32 × nz_S} (g : Nat) (hg : nz_isG g) (c1 : Int32) (c2 : Int32) (c3 : Int32) (c4 : Int32) (E : nz_Env κ q nz_tK 6 cX0_copyBlockFor RX0 (nz_T yX0_copyBlockFor cX0_copyBlockFor 6 (some .int)) (nz_R 2 46)) (hR : nz_RI κ q nz_tK .int o) : ∀ (fu : Nat) (w5 : Int32) (x : nz_S) (K : Int32 → nz_S → Option (Int32 × nz_S)), f_X0_copyBlockFor_62 g c1 c2 c3 c4 fu w5 x K = some o → (∀ (w5 : Int32) (x : nz_S), K w5 x = some o → nz_St κ q nz_tK 6 87 [(0, .ref (q g)), (1, .int c1), (2, .int c2), (3, .int c3), (4, .int c4), (5, .int w5)] [] x) → nz_St κ q nz_tK 6 62 [(0, .ref (q g)), (1, .int c1), (2, .int c2), (3, .int c3), (4, .int c4), (5, .int w5)] [] x := by
  intro fu
  induction fu with
  | zero => intro w5 x K hf; rw [f_X0_copyBlockFor_62] at hf; cases hf
  | succ fu ih =>
    intro w5 x K hf hK
    rw [f_X0_copyBlockFor_62] at hf
    refine nz_iload (pc := 62) (i := 5) E dX0_copyBlockFor_62 rfl ?_
    refine nz_iload (pc := 64) (i := 4) E dX0_copyBlockFor_64 rfl ?_
    refine nz_icmp_ge (pc := 66) (tgt := 87) E dX0_copyBlockFor_66 (by decide) (fun h21 => ?_) (fun h21 => ?_)
    · have hf := nz_ite_t hf h21
      refine nz_weak (lv' := [(0, .ref (q g)), (1, .int _), (2, .int _), (3, .int _), (4, .int _), (5, .int _)]) ⟨rfl, rfl, rfl, rfl, rfl, rfl, trivial⟩ ?_
      exact hK _ _ hf
    · have hf := nz_ite_f hf h21
      refine nz_aload_n (pc := 69) (i := 0) E dX0_copyBlockFor_69 rfl rfl ?_
      refine nz_iload_n (pc := 70) (i := 3) E dX0_copyBlockFor_70 rfl rfl ?_
      refine nz_aload_n (pc := 71) (i := 0) E dX0_copyBlockFor_71 rfl rfl ?_
      refine nz_iload_n (pc := 72) (i := 2) E dX0_copyBlockFor_72 rfl rfl ?_
      refine nz_iload (pc := 73) (i := 5) E dX0_copyBlockFor_73 rfl ?_
      obtain ⟨r22, x23, h24, hf⟩ := nz_bnd_t hf
      refine nz_callVI (pc := 75) (c0 := g) (As := [.int _, .int _]) E hg.1 rfl (k_X0_target g hg _ _ _ _ h24) (nz_cwV E nz_w473 nz_w358 nz_w359 nz_w60 nz_w360 ds_X0_target ⟨Nat.le_of_ble_eq_true rfl, Nat.le_of_ble_eq_true rfl⟩ rfl rfl) rfl rfl (Nat.le_of_ble_eq_true rfl) dX0_copyBlockFor_75 ?_
      obtain ⟨r25, x26, h27, hf⟩ := nz_bnd_t hf
      refine nz_callVV (pc := 78) (c0 := g) (As := [.int _, .int _]) E hg.1 rfl (k_X0_putArcBehind g hg _ _ _ _ h27) (nz_cwV E nz_w308 nz_w310 nz_w0 nz_w60 nz_w311 ds_X0_putArcBehind ⟨Nat.le_of_ble_eq_true rfl, Nat.le_of_ble_eq_true rfl⟩ rfl rfl) rfl rfl (Nat.le_of_ble_eq_true rfl) dX0_copyBlockFor_78 ?_
      refine nz_iinc (pc := 81) (i := 5) (w := 1) E dX0_copyBlockFor_81 rfl (by decide) (by decide) rfl ?_
      refine nz_goto (pc := 84) (tgt := 62) E dX0_copyBlockFor_84 (by decide) ?_
      refine nz_weak (lv' := [(0, .ref (q g)), (1, .int _), (2, .int _), (3, .int _), (4, .int _), (5, .int _)]) ⟨rfl, rfl, rfl, rfl, rfl, rfl, trivial⟩ ?_
      exact ih _ _ _ hf hK
set_option maxHeartbeats 4000000 in
set_option maxRecDepth 20000 in
theorem k_X0_copyBlockFor {l : Launch} {w : nz_O} {q : Nat → Nat} (g : Nat) (hg : nz_isG g) (a0 : Int32) (a1 : Int32) (x : nz_S) (o : Int32 × nz_S) (hf : f_X0_copyBlockFor g a0 a1 x = some o) : nz_MI l yX0_copyBlockFor (nz_T yX0_copyBlockFor cX0_copyBlockFor 6 (some .int)) (nz_R 2 46) w q nz_tK [.ref (q g), .int a0, .int a1] x o := by
  refine nz_enterI (by decide) rfl (Nat.le_of_ble_eq_true rfl) rfl rfl ?_
  intro κ E hw hlq hR
  subst hw; subst hlq
  unfold f_X0_copyBlockFor at hf
  refine nz_weak (lv' := [(0, .ref (q g)), (1, .int a0), (2, .int a1)]) ⟨rfl, rfl, rfl, trivial⟩ ?_
  refine nz_aload_n (pc := 0) (i := 0) E dX0_copyBlockFor_0 rfl rfl ?_
  refine nz_iload_n (pc := 1) (i := 1) E dX0_copyBlockFor_1 rfl rfl ?_
  obtain ⟨r1, x2, h3, hf⟩ := nz_bnd_t hf
  refine nz_callVI (pc := 2) (c0 := g) (As := [.int _]) E hg.1 rfl (k_X0_hasBlock g hg _ _ _ h3) (nz_cwV E nz_w431 nz_w419 nz_w420 nz_w60 nz_w421 ds_X0_hasBlock ⟨Nat.le_of_ble_eq_true rfl, Nat.le_of_ble_eq_true rfl⟩ rfl rfl) rfl rfl (Nat.le_of_ble_eq_true rfl) dX0_copyBlockFor_2 ?_
  refine nz_if_eq (pc := 5) (tgt := 16) E dX0_copyBlockFor_5 (by decide) (fun h4 => ?_) (fun h4 => ?_)
  · have hf := nz_ite_t hf h4
    refine nz_iconst (pc := 16) (v := -1) E dX0_copyBlockFor_16 (by decide) ?_
    exact nz_iret (pc := 17) E hR rfl hf dX0_copyBlockFor_17
  · have hf := nz_ite_f hf h4
    refine nz_aload_n (pc := 8) (i := 0) E dX0_copyBlockFor_8 rfl rfl ?_
    refine nz_iload_n (pc := 9) (i := 2) E dX0_copyBlockFor_9 rfl rfl ?_
    obtain ⟨r5, x6, h7, hf⟩ := nz_bnd_t hf
    refine nz_callVI (pc := 10) (c0 := g) (As := [.int _]) E hg.1 rfl (k_X0_hasBlock g hg _ _ _ h7) (nz_cwV E nz_w431 nz_w419 nz_w420 nz_w60 nz_w421 ds_X0_hasBlock ⟨Nat.le_of_ble_eq_true rfl, Nat.le_of_ble_eq_true rfl⟩ rfl rfl) rfl rfl (Nat.le_of_ble_eq_true rfl) dX0_copyBlockFor_10 ?_
    refine nz_if_ne (pc := 13) (tgt := 18) E dX0_copyBlockFor_13 (by decide) (fun h8 => ?_) (fun h8 => ?_)
    · have hf := nz_ite_f hf h8
      refine nz_aload_n (pc := 18) (i := 0) E dX0_copyBlockFor_18 rfl rfl ?_
      refine nz_iload_n (pc := 19) (i := 1) E dX0_copyBlockFor_19 rfl rfl ?_
      refine nz_iload_n (pc := 20) (i := 2) E dX0_copyBlockFor_20 rfl rfl ?_
      obtain ⟨r9, x10, h11, hf⟩ := nz_bnd_t hf
      refine nz_callVI (pc := 21) (c0 := g) (As := [.int _, .int _]) E hg.1 rfl (k_X0_goesTo g hg _ _ _ _ h11) (nz_cwV E nz_w486 nz_w488 nz_w9 nz_w60 nz_w489 ds_X0_goesTo ⟨Nat.le_of_ble_eq_true rfl, Nat.le_of_ble_eq_true rfl⟩ rfl rfl) rfl rfl (Nat.le_of_ble_eq_true rfl) dX0_copyBlockFor_21 ?_
      refine nz_if_ne (pc := 24) (tgt := 30) E dX0_copyBlockFor_24 (by decide) (fun h12 => ?_) (fun h12 => ?_)
      · have hf := nz_ite_f hf h12
        refine nz_aload_n (pc := 30) (i := 0) E dX0_copyBlockFor_30 rfl rfl ?_
        refine nz_getI (pc := 31) (c := g) (kf := 3) E hg.1 rfl (nz_upT nz_uX0) (by decide) (List.mem_cons_of_mem _ nz_w109) rfl rfl dX0_copyBlockFor_31 ?_
        refine nz_istore_n (pc := 34) (i := 3) E dX0_copyBlockFor_34 rfl (by decide) rfl ?_
        refine nz_aload_n (pc := 35) (i := 0) E dX0_copyBlockFor_35 rfl rfl ?_
        refine nz_aload_n (pc := 36) (i := 0) E dX0_copyBlockFor_36 rfl rfl ?_
        refine nz_getR (pc := 37) (c := g) (kf := 0) E hg.1 rfl (nz_upT nz_uX0) (by decide) (List.mem_cons_of_mem _ nz_w100) rfl rfl dX0_copyBlockFor_37 ?_
        refine nz_iload_n (pc := 40) (i := 2) E dX0_copyBlockFor_40 rfl rfl ?_
        obtain ⟨h14, hf⟩ := nz_chk_t hf
        refine nz_iald (pc := 41) (c := (g + 1)) E hg.2.1 h14 dX0_copyBlockFor_41 ?_
        obtain ⟨r15, x16, h17, hf⟩ := nz_bnd_t hf
        refine nz_callVI (pc := 42) (c0 := g) (As := [.int _]) E hg.1 rfl (k_X0_appendBlock g hg _ _ _ h17) (nz_cwV E nz_w490 nz_w301 nz_w302 nz_w60 nz_w303 ds_X0_appendBlock ⟨Nat.le_of_ble_eq_true rfl, Nat.le_of_ble_eq_true rfl⟩ rfl rfl) rfl rfl (Nat.le_of_ble_eq_true rfl) dX0_copyBlockFor_42 ?_
        refine nz_if_ne (pc := 45) (tgt := 51) E dX0_copyBlockFor_45 (by decide) (fun h18 => ?_) (fun h18 => ?_)
        · have hf := nz_ite_f hf h18
          refine nz_aload_n (pc := 51) (i := 0) E dX0_copyBlockFor_51 rfl rfl ?_
          refine nz_getR (pc := 52) (c := g) (kf := 1) E hg.1 rfl (nz_upT nz_uX0) (by decide) (List.mem_cons_of_mem _ nz_w103) rfl rfl dX0_copyBlockFor_52 ?_
          refine nz_iload_n (pc := 55) (i := 2) E dX0_copyBlockFor_55 rfl rfl ?_
          obtain ⟨h19, hf⟩ := nz_chk_t hf
          refine nz_iald (pc := 56) (c := (g + 2)) E hg.2.2.1 h19 dX0_copyBlockFor_56 ?_
          refine nz_istore (pc := 57) (i := 4) E dX0_copyBlockFor_57 (by decide) rfl ?_
          refine nz_iconst (pc := 59) (v := 0) E dX0_copyBlockFor_59 (by decide) ?_
          refine nz_istore (pc := 60) (i := 5) E dX0_copyBlockFor_60 (by decide) rfl ?_
          refine nz_weak (lv' := [(0, .ref (q g)), (1, .int _), (2, .int _), (3, .int _), (4, .int _), (5, .int _)]) ⟨rfl, rfl, rfl, rfl, rfl, rfl, trivial⟩ ?_
          refine w_X0_copyBlockFor_62 g hg _ _ _ _ E hR _ _ _ _ hf (fun u30 x29 hf => ?_)
          refine nz_aload_n (pc := 87) (i := 0) E dX0_copyBlockFor_87 rfl rfl ?_
          refine nz_iload_n (pc := 88) (i := 1) E dX0_copyBlockFor_88 rfl rfl ?_
          refine nz_iload_n (pc := 89) (i := 2) E dX0_copyBlockFor_89 rfl rfl ?_
          refine nz_iload_n (pc := 90) (i := 3) E dX0_copyBlockFor_90 rfl rfl ?_
          obtain ⟨r31, x32, h33, hf⟩ := nz_bnd_t hf
          refine nz_callVV (pc := 91) (c0 := g) (As := [.int _, .int _, .int _]) E hg.1 rfl (k_X0_turnArcs g hg _ _ _ _ _ h33) (nz_cwV E nz_w491 nz_w493 nz_w10 nz_w60 nz_w494 ds_X0_turnArcs ⟨Nat.le_of_ble_eq_true rfl, Nat.le_of_ble_eq_true rfl⟩ rfl rfl) rfl rfl (Nat.le_of_ble_eq_true rfl) dX0_copyBlockFor_91 ?_
          refine nz_iload_n (pc := 94) (i := 3) E dX0_copyBlockFor_94 rfl rfl ?_
          exact nz_iret (pc := 95) E hR rfl hf dX0_copyBlockFor_95
        · have hf := nz_ite_t hf h18
          refine nz_bipush (pc := 48) (v := -4) E dX0_copyBlockFor_48 (by decide) ?_
          exact nz_iret (pc := 50) E hR rfl hf dX0_copyBlockFor_50
      · have hf := nz_ite_t hf h12
        refine nz_bipush (pc := 27) (v := -3) E dX0_copyBlockFor_27 (by decide) ?_
        exact nz_iret (pc := 29) E hR rfl hf dX0_copyBlockFor_29
    · have hf := nz_ite_t hf h8
      refine nz_iconst (pc := 16) (v := -1) E dX0_copyBlockFor_16 (by decide) ?_
      exact nz_iret (pc := 17) E hR rfl hf dX0_copyBlockFor_17
def f_X7_split (a0 : Int32) (a1 : Int32) (x : nz_S) : Option (Int32 × nz_S) :=
  nz_bnd (f_X0_copyFrom 7 3  x) fun r1 x2 =>
  nz_bnd (f_X0_copyBlockFor 7 a0 a1 x2) fun r4 x5 =>
  nz_bnd (f_X7_settle  r4 x5) fun r7 x8 =>
  some (r7, x8)
theorem ds_X7_split : nz_dsc yX7_split 2 := by unfold nz_dsc; decide +kernel
set_option maxHeartbeats 4000000 in
set_option maxRecDepth 20000 in
theorem k_X7_split {l : Launch} {w : nz_O} {q : Nat → Nat} (a0 : Int32) (a1 : Int32) (x : nz_S) (o : Int32 × nz_S) (hf : f_X7_split a0 a1 x = some o) : nz_MI l yX7_split (nz_T yX7_split cX7_split 3 (some .int)) (nz_R 4 105) w q nz_tK [.ref (q 0), .int a0, .int a1] x o := by
  refine nz_enterI (by decide) rfl (Nat.le_of_ble_eq_true rfl) rfl rfl ?_
  intro κ E hw hlq hR
  subst hw; subst hlq
  unfold f_X7_split at hf
  refine nz_weak (lv' := [(0, .ref (q 0)), (1, .int a0), (2, .int a1)]) ⟨rfl, rfl, rfl, trivial⟩ ?_
  refine nz_aload_n (pc := 0) (i := 0) E dX7_split_0 rfl rfl ?_
  refine nz_getR (pc := 1) (c := 0) (kf := 2) E rfl rfl (nz_upT nz_uX7) (by decide) (List.mem_cons_of_mem _ nz_w250) rfl rfl dX7_split_1 ?_
  refine nz_aload_n (pc := 4) (i := 0) E dX7_split_4 rfl rfl ?_
  refine nz_getR (pc := 5) (c := 0) (kf := 1) E rfl rfl (nz_upT nz_uX7) (by decide) (List.mem_cons_of_mem _ nz_w249) rfl rfl dX7_split_5 ?_
  obtain ⟨r1, x2, h3, hf⟩ := nz_bnd_t hf
  refine nz_callVV (pc := 8) (c0 := 7) (As := [.ref (q 3)]) E rfl rfl (k_X0_copyFrom 7 3 nz_g7 nz_g3 _ _ h3) (nz_cwV E nz_w316 nz_w317 nz_w318 nz_w60 nz_w319 ds_X0_copyFrom ⟨Nat.le_of_ble_eq_true rfl, Nat.le_of_ble_eq_true rfl⟩ rfl rfl) rfl rfl (Nat.le_of_ble_eq_true rfl) dX7_split_8 ?_
  refine nz_aload_n (pc := 11) (i := 0) E dX7_split_11 rfl rfl ?_
  refine nz_aload_n (pc := 12) (i := 0) E dX7_split_12 rfl rfl ?_
  refine nz_getR (pc := 13) (c := 0) (kf := 2) E rfl rfl (nz_upT nz_uX7) (by decide) (List.mem_cons_of_mem _ nz_w250) rfl rfl dX7_split_13 ?_
  refine nz_iload_n (pc := 16) (i := 1) E dX7_split_16 rfl rfl ?_
  refine nz_iload_n (pc := 17) (i := 2) E dX7_split_17 rfl rfl ?_
  obtain ⟨r4, x5, h6, hf⟩ := nz_bnd_t hf
  refine nz_callVI (pc := 18) (c0 := 7) (As := [.int _, .int _]) E rfl rfl (k_X0_copyBlockFor 7 nz_g7 _ _ _ _ h6) (nz_cwV E nz_w482 nz_w483 nz_w484 nz_w60 nz_w485 ds_X0_copyBlockFor ⟨Nat.le_of_ble_eq_true rfl, Nat.le_of_ble_eq_true rfl⟩ rfl rfl) rfl rfl (Nat.le_of_ble_eq_true rfl) dX7_split_18 ?_
  obtain ⟨r7, x8, h9, hf⟩ := nz_bnd_t hf
  refine nz_callVI (pc := 21) (c0 := 0) (As := [.int _]) E rfl rfl (k_X7_settle   _ _ _ h9) (nz_cwV E nz_w451 nz_w453 nz_w8 nz_w58 nz_w454 ds_X7_settle ⟨Nat.le_of_ble_eq_true rfl, Nat.le_of_ble_eq_true rfl⟩ rfl rfl) rfl rfl (Nat.le_of_ble_eq_true rfl) dX7_split_21 ?_
  exact nz_iret (pc := 24) E hR rfl hf dX7_split_24
def f_X5_lastManyEntered_7 : Nat → Int32 → nz_S → (Int32 → nz_S → Option (Int32 × nz_S)) → Option (Int32 × nz_S)
  | 0, _, _, _ => none
  | fu + 1, w1, x, K =>
  if w1 < (0 : Int32) then
    K w1 x
  else
    nz_chk (nz_in w1 12) <|
    let v4 : Int32 := (x.1 13 (w1).toNatClampNeg)
    nz_chk (nz_in v4 12) <|
    if (x.1 19 (v4).toNatClampNeg) = (3 : Int32) then
      nz_chk (nz_in w1 12) <|
      some ((x.1 13 (w1).toNatClampNeg), x)
    else
      let v7 : Int32 := w1 + (-1)
      f_X5_lastManyEntered_7 fu v7 x K
def f_X5_lastManyEntered (x : nz_S) : Option (Int32 × nz_S) :=
  let v1 : Int32 := ((x.1 11 8) - (1 : Int32))
  f_X5_lastManyEntered_7 nz_F v1 x fun u10 x9 =>
    some ((-9 : Int32), x9)
theorem ds_X5_lastManyEntered : nz_dsc yX5_lastManyEntered 0 := by unfold nz_dsc; decide +kernel
set_option maxHeartbeats 4000000 in
set_option maxRecDepth 20000 in
theorem w_X5_lastManyEntered_7 {κ : nz_C} {q : Nat → Nat} {o : Int32 × nz_S} (E : nz_Env κ q nz_tK 2 cX5_lastManyEntered RX5 (nz_T yX5_lastManyEntered cX5_lastManyEntered 2 (some .int)) (nz_R 0 0)) (hR : nz_RI κ q nz_tK .int o) : ∀ (fu : Nat) (w1 : Int32) (x : nz_S) (K : Int32 → nz_S → Option (Int32 × nz_S)), f_X5_lastManyEntered_7 fu w1 x K = some o → (∀ (w1 : Int32) (x : nz_S), K w1 x = some o → nz_St κ q nz_tK 2 39 [(0, .ref (q 11)), (1, .int w1)] [] x) → nz_St κ q nz_tK 2 7 [(0, .ref (q 11)), (1, .int w1)] [] x := by
  intro fu
  induction fu with
  | zero => intro w1 x K hf; rw [f_X5_lastManyEntered_7] at hf; cases hf
  | succ fu ih =>
    intro w1 x K hf hK
    rw [f_X5_lastManyEntered_7] at hf
    refine nz_iload_n (pc := 7) (i := 1) E dX5_lastManyEntered_7 rfl rfl ?_
    refine nz_if_lt (pc := 8) (tgt := 39) E dX5_lastManyEntered_8 (by decide) (fun h2 => ?_) (fun h2 => ?_)
    · have hf := nz_ite_t hf h2
      refine nz_weak (lv' := [(0, .ref (q 11)), (1, .int _)]) ⟨rfl, rfl, trivial⟩ ?_
      exact hK _ _ hf
    · have hf := nz_ite_f hf h2
      refine nz_aload_n (pc := 11) (i := 0) E dX5_lastManyEntered_11 rfl rfl ?_
      refine nz_getR (pc := 12) (c := 11) (kf := 7) E rfl rfl (nz_upT nz_uX5) (by decide) (List.mem_cons_of_mem _ nz_w141) rfl rfl dX5_lastManyEntered_12 ?_
      refine nz_aload_n (pc := 15) (i := 0) E dX5_lastManyEntered_15 rfl rfl ?_
      refine nz_getR (pc := 16) (c := 11) (kf := 1) E rfl rfl (nz_upT nz_uX5) (by decide) (List.mem_cons_of_mem _ nz_w131) rfl rfl dX5_lastManyEntered_16 ?_
      refine nz_iload_n (pc := 19) (i := 1) E dX5_lastManyEntered_19 rfl rfl ?_
      obtain ⟨h3, hf⟩ := nz_chk_t hf
      refine nz_iald (pc := 20) (c := 13) E rfl h3 dX5_lastManyEntered_20 ?_
      obtain ⟨h5, hf⟩ := nz_chk_t hf
      refine nz_iald (pc := 21) (c := 19) E rfl h5 dX5_lastManyEntered_21 ?_
      refine nz_iconst (pc := 22) (v := 3) E dX5_lastManyEntered_22 (by decide) ?_
      refine nz_icmp_ne (pc := 23) (tgt := 33) E dX5_lastManyEntered_23 (by decide) (fun h6 => ?_) (fun h6 => ?_)
      · have hf := nz_ite_f hf h6
        refine nz_iinc (pc := 33) (i := 1) (w := -1) E dX5_lastManyEntered_33 rfl (by decide) (by decide) rfl ?_
        refine nz_goto (pc := 36) (tgt := 7) E dX5_lastManyEntered_36 (by decide) ?_
        refine nz_weak (lv' := [(0, .ref (q 11)), (1, .int _)]) ⟨rfl, rfl, trivial⟩ ?_
        exact ih _ _ _ hf hK
      · have hf := nz_ite_t hf h6
        refine nz_aload_n (pc := 26) (i := 0) E dX5_lastManyEntered_26 rfl rfl ?_
        refine nz_getR (pc := 27) (c := 11) (kf := 1) E rfl rfl (nz_upT nz_uX5) (by decide) (List.mem_cons_of_mem _ nz_w131) rfl rfl dX5_lastManyEntered_27 ?_
        refine nz_iload_n (pc := 30) (i := 1) E dX5_lastManyEntered_30 rfl rfl ?_
        obtain ⟨h8, hf⟩ := nz_chk_t hf
        refine nz_iald (pc := 31) (c := 13) E rfl h8 dX5_lastManyEntered_31 ?_
        exact nz_iret (pc := 32) E hR rfl hf dX5_lastManyEntered_32
set_option maxHeartbeats 4000000 in
set_option maxRecDepth 20000 in
theorem k_X5_lastManyEntered {l : Launch} {w : nz_O} {q : Nat → Nat} (x : nz_S) (o : Int32 × nz_S) (hf : f_X5_lastManyEntered x = some o) : nz_MI l yX5_lastManyEntered (nz_T yX5_lastManyEntered cX5_lastManyEntered 2 (some .int)) (nz_R 0 0) w q nz_tK [.ref (q 11)] x o := by
  refine nz_enterI (by decide) rfl (Nat.le_of_ble_eq_true rfl) rfl rfl ?_
  intro κ E hw hlq hR
  subst hw; subst hlq
  unfold f_X5_lastManyEntered at hf
  refine nz_weak (lv' := [(0, .ref (q 11))]) ⟨rfl, trivial⟩ ?_
  refine nz_aload_n (pc := 0) (i := 0) E dX5_lastManyEntered_0 rfl rfl ?_
  refine nz_getI (pc := 1) (c := 11) (kf := 8) E rfl rfl (nz_upT nz_uX5) (by decide) (List.mem_cons_of_mem _ nz_w143) rfl rfl dX5_lastManyEntered_1 ?_
  refine nz_iconst (pc := 4) (v := 1) E dX5_lastManyEntered_4 (by decide) ?_
  refine nz_isub (pc := 5) E dX5_lastManyEntered_5 ?_
  refine nz_istore_n (pc := 6) (i := 1) E dX5_lastManyEntered_6 rfl (by decide) rfl ?_
  refine nz_weak (lv' := [(0, .ref (q 11)), (1, .int _)]) ⟨rfl, rfl, trivial⟩ ?_
  refine w_X5_lastManyEntered_7 E hR _ _ _ _ hf (fun u10 x9 hf => ?_)
  refine nz_bipush (pc := 39) (v := -9) E dX5_lastManyEntered_39 (by decide) ?_
  exact nz_iret (pc := 41) E hR rfl hf dX5_lastManyEntered_41
def f_X7_leastOf (a0 : Int32) (x : nz_S) : Option (Int32 × nz_S) :=
  if a0 = (0 : Int32) then
    some ((-9 : Int32), x)
  else
    nz_bnd (f_J6_numberOfTrailingZeros_0f7a4  a0 x) fun r2 x3 =>
    some (r2, x3)
theorem ds_X7_leastOf : nz_dsc yX7_leastOf 1 := by unfold nz_dsc; decide +kernel
set_option maxHeartbeats 4000000 in
set_option maxRecDepth 20000 in
theorem k_X7_leastOf {l : Launch} {w : nz_O} {q : Nat → Nat} (a0 : Int32) (x : nz_S) (o : Int32 × nz_S) (hf : f_X7_leastOf a0 x = some o) : nz_MI l yX7_leastOf (nz_T yX7_leastOf cX7_leastOf 1 (some .int)) (nz_R 1 21) w q nz_tK [.int a0] x o := by
  refine nz_enterI (by decide) rfl (Nat.le_of_ble_eq_true rfl) rfl rfl ?_
  intro κ E hw hlq hR
  subst hw; subst hlq
  unfold f_X7_leastOf at hf
  refine nz_weak (lv' := [(0, .int a0)]) ⟨rfl, trivial⟩ ?_
  refine nz_iload_n (pc := 0) (i := 0) E dX7_leastOf_0 rfl rfl ?_
  refine nz_if_ne (pc := 1) (tgt := 9) E dX7_leastOf_1 (by decide) (fun h1 => ?_) (fun h1 => ?_)
  · have hf := nz_ite_f hf h1
    refine nz_iload_n (pc := 9) (i := 0) E dX7_leastOf_9 rfl rfl ?_
    obtain ⟨r2, x3, h4, hf⟩ := nz_bnd_t hf
    refine nz_callSI (pc := 10) (As := [.int _]) E (k_J6_numberOfTrailingZeros_0f7a4   _ _ _ h4) (nz_cwS E nz_w518 nz_w382 nz_w70 nz_w383 ds_J6_numberOfTrailingZeros_0f7a4 ⟨Nat.le_of_ble_eq_true rfl, Nat.le_of_ble_eq_true rfl⟩ rfl rfl) rfl rfl (Nat.le_of_ble_eq_true rfl) dX7_leastOf_10 ?_
    exact nz_iret (pc := 13) E hR rfl hf dX7_leastOf_13
  · have hf := nz_ite_t hf h1
    refine nz_bipush (pc := 4) (v := -9) E dX7_leastOf_4 (by decide) ?_
    refine nz_goto (pc := 6) (tgt := 13) E dX7_leastOf_6 (by decide) ?_
    exact nz_iret (pc := 13) E hR rfl hf dX7_leastOf_13
def f_X7_leastTarget_5 (c1 : Int32) (c2 : Int32) : Nat → Int32 → Int32 → nz_S → (Int32 → Int32 → nz_S → Option (Int32 × nz_S)) → Option (Int32 × nz_S)
  | 0, _, _, _, _ => none
  | fu + 1, w3, w4, x, K =>
  if (x.1 7 3) ≤ w4 then
    K w3 w4 x
  else
    if ((c1 >>> (w4 &&& 31)) &&& (1 : Int32)) = (0 : Int32) then
      let v3 : Int32 := w4 + 1
      f_X7_leastTarget_5 c1 c2 fu w3 v3 x K
    else
      nz_chk (nz_in w4 12) <|
      let v5 : Int32 := (w3 ||| (x.1 15 (w4).toNatClampNeg))
      let v6 : Int32 := w4 + 1
      f_X7_leastTarget_5 c1 c2 fu v5 v6 x K
def f_X7_leastTarget (a0 : Int32) (a1 : Int32) (x : nz_S) : Option (Int32 × nz_S) :=
  f_X7_leastTarget_5 a0 a1 nz_F (0 : Int32) (0 : Int32) x fun u8 u9 x7 =>
    nz_bnd (f_X7_leastOf  (u8 &&& a1) x7) fun r10 x11 =>
    some (r10, x11)
theorem ds_X7_leastTarget : nz_dsc yX7_leastTarget 2 := by unfold nz_dsc; decide +kernel
set_option maxHeartbeats 4000000 in
set_option maxRecDepth 20000 in
theorem w_X7_leastTarget_5 {κ : nz_C} {q : Nat → Nat} {o : Int32 × nz_S} (c1 : Int32) (c2 : Int32) (E : nz_Env κ q nz_tK 5 cX7_leastTarget RX7 (nz_T yX7_leastTarget cX7_leastTarget 5 (some .int)) (nz_R 2 41)) (hR : nz_RI κ q nz_tK .int o) : ∀ (fu : Nat) (w3 : Int32) (w4 : Int32) (x : nz_S) (K : Int32 → Int32 → nz_S → Option (Int32 × nz_S)), f_X7_leastTarget_5 c1 c2 fu w3 w4 x K = some o → (∀ (w3 : Int32) (w4 : Int32) (x : nz_S), K w3 w4 x = some o → nz_St κ q nz_tK 5 45 [(0, .ref (q 0)), (1, .int c1), (2, .int c2), (3, .int w3), (4, .int w4)] [] x) → nz_St κ q nz_tK 5 5 [(0, .ref (q 0)), (1, .int c1), (2, .int c2), (3, .int w3), (4, .int w4)] [] x := by
  intro fu
  induction fu with
  | zero => intro w3 w4 x K hf; rw [f_X7_leastTarget_5] at hf; cases hf
  | succ fu ih =>
    intro w3 w4 x K hf hK
    rw [f_X7_leastTarget_5] at hf
    refine nz_iload (pc := 5) (i := 4) E dX7_leastTarget_5 rfl ?_
    refine nz_aload_n (pc := 7) (i := 0) E dX7_leastTarget_7 rfl rfl ?_
    refine nz_getR (pc := 8) (c := 0) (kf := 2) E rfl rfl (nz_upT nz_uX7) (by decide) (List.mem_cons_of_mem _ nz_w250) rfl rfl dX7_leastTarget_8 ?_
    refine nz_getNI (pc := 11) (c := 7) (kf := 3) E rfl rfl (nz_upT nz_uX0) (by decide) nz_n113 rfl rfl dX7_leastTarget_11 ?_
    refine nz_icmp_ge (pc := 14) (tgt := 45) E dX7_leastTarget_14 (by decide) (fun h1 => ?_) (fun h1 => ?_)
    · have hf := nz_ite_t hf h1
      refine nz_weak (lv' := [(0, .ref (q 0)), (1, .int _), (2, .int _), (3, .int _), (4, .int _)]) ⟨rfl, rfl, rfl, rfl, rfl, trivial⟩ ?_
      exact hK _ _ _ hf
    · have hf := nz_ite_f hf h1
      refine nz_iload_n (pc := 17) (i := 1) E dX7_leastTarget_17 rfl rfl ?_
      refine nz_iload (pc := 18) (i := 4) E dX7_leastTarget_18 rfl ?_
      refine nz_ishr (pc := 20) E dX7_leastTarget_20 ?_
      refine nz_iconst (pc := 21) (v := 1) E dX7_leastTarget_21 (by decide) ?_
      refine nz_iand (pc := 22) E dX7_leastTarget_22 ?_
      refine nz_if_eq (pc := 23) (tgt := 39) E dX7_leastTarget_23 (by decide) (fun h2 => ?_) (fun h2 => ?_)
      · have hf := nz_ite_t hf h2
        refine nz_iinc (pc := 39) (i := 4) (w := 1) E dX7_leastTarget_39 rfl (by decide) (by decide) rfl ?_
        refine nz_goto (pc := 42) (tgt := 5) E dX7_leastTarget_42 (by decide) ?_
        refine nz_weak (lv' := [(0, .ref (q 0)), (1, .int _), (2, .int _), (3, .int _), (4, .int _)]) ⟨rfl, rfl, rfl, rfl, rfl, trivial⟩ ?_
        exact ih _ _ _ _ hf hK
      · have hf := nz_ite_f hf h2
        refine nz_iload_n (pc := 26) (i := 3) E dX7_leastTarget_26 rfl rfl ?_
        refine nz_aload_n (pc := 27) (i := 0) E dX7_leastTarget_27 rfl rfl ?_
        refine nz_getR (pc := 28) (c := 0) (kf := 3) E rfl rfl (nz_upT nz_uX7) (by decide) (List.mem_cons_of_mem _ nz_w251) rfl rfl dX7_leastTarget_28 ?_
        refine nz_getNR (pc := 31) (c := 11) (kf := 3) E rfl rfl (nz_upT nz_uX5) (by decide) nz_n135 rfl rfl dX7_leastTarget_31 ?_
        refine nz_iload (pc := 34) (i := 4) E dX7_leastTarget_34 rfl ?_
        obtain ⟨h4, hf⟩ := nz_chk_t hf
        refine nz_iald (pc := 36) (c := 15) E rfl h4 dX7_leastTarget_36 ?_
        refine nz_ior (pc := 37) E dX7_leastTarget_37 ?_
        refine nz_istore_n (pc := 38) (i := 3) E dX7_leastTarget_38 rfl (by decide) rfl ?_
        refine nz_iinc (pc := 39) (i := 4) (w := 1) E dX7_leastTarget_39 rfl (by decide) (by decide) rfl ?_
        refine nz_goto (pc := 42) (tgt := 5) E dX7_leastTarget_42 (by decide) ?_
        refine nz_weak (lv' := [(0, .ref (q 0)), (1, .int _), (2, .int _), (3, .int _), (4, .int _)]) ⟨rfl, rfl, rfl, rfl, rfl, trivial⟩ ?_
        exact ih _ _ _ _ hf hK
set_option maxHeartbeats 4000000 in
set_option maxRecDepth 20000 in
theorem k_X7_leastTarget {l : Launch} {w : nz_O} {q : Nat → Nat} (a0 : Int32) (a1 : Int32) (x : nz_S) (o : Int32 × nz_S) (hf : f_X7_leastTarget a0 a1 x = some o) : nz_MI l yX7_leastTarget (nz_T yX7_leastTarget cX7_leastTarget 5 (some .int)) (nz_R 2 41) w q nz_tK [.ref (q 0), .int a0, .int a1] x o := by
  refine nz_enterI (by decide) rfl (Nat.le_of_ble_eq_true rfl) rfl rfl ?_
  intro κ E hw hlq hR
  subst hw; subst hlq
  unfold f_X7_leastTarget at hf
  refine nz_weak (lv' := [(0, .ref (q 0)), (1, .int a0), (2, .int a1)]) ⟨rfl, rfl, rfl, trivial⟩ ?_
  refine nz_iconst (pc := 0) (v := 0) E dX7_leastTarget_0 (by decide) ?_
  refine nz_istore_n (pc := 1) (i := 3) E dX7_leastTarget_1 rfl (by decide) rfl ?_
  refine nz_iconst (pc := 2) (v := 0) E dX7_leastTarget_2 (by decide) ?_
  refine nz_istore (pc := 3) (i := 4) E dX7_leastTarget_3 (by decide) rfl ?_
  refine nz_weak (lv' := [(0, .ref (q 0)), (1, .int _), (2, .int _), (3, .int _), (4, .int _)]) ⟨rfl, rfl, rfl, rfl, rfl, trivial⟩ ?_
  refine w_X7_leastTarget_5 _ _ E hR _ _ _ _ _ hf (fun u8 u9 x7 hf => ?_)
  refine nz_iload_n (pc := 45) (i := 3) E dX7_leastTarget_45 rfl rfl ?_
  refine nz_iload_n (pc := 46) (i := 2) E dX7_leastTarget_46 rfl rfl ?_
  refine nz_iand (pc := 47) E dX7_leastTarget_47 ?_
  obtain ⟨r10, x11, h12, hf⟩ := nz_bnd_t hf
  refine nz_callSI (pc := 48) (As := [.int _]) E (k_X7_leastOf   _ _ _ h12) (nz_cwS E nz_w515 nz_w516 nz_w58 nz_w517 ds_X7_leastOf ⟨Nat.le_of_ble_eq_true rfl, Nat.le_of_ble_eq_true rfl⟩ rfl rfl) rfl rfl (Nat.le_of_ble_eq_true rfl) dX7_leastTarget_48 ?_
  exact nz_iret (pc := 51) E hR rfl hf dX7_leastTarget_51
def f_X7_leastSource_2 (c1 : Int32) (c2 : Int32) : Nat → Int32 → nz_S → (Int32 → nz_S → Option (Int32 × nz_S)) → Option (Int32 × nz_S)
  | 0, _, _, _ => none
  | fu + 1, w3, x, K =>
  if (x.1 7 3) ≤ w3 then
    K w3 x
  else
    if ((c1 >>> (w3 &&& 31)) &&& (1 : Int32)) = (0 : Int32) then
      let v3 : Int32 := w3 + 1
      f_X7_leastSource_2 c1 c2 fu v3 x K
    else
      nz_chk (nz_in w3 12) <|
      if (((x.1 15 (w3).toNatClampNeg) >>> (c2 &&& 31)) &&& (1 : Int32)) = (0 : Int32) then
        let v6 : Int32 := w3 + 1
        f_X7_leastSource_2 c1 c2 fu v6 x K
      else
        some (w3, x)
def f_X7_leastSource (a0 : Int32) (a1 : Int32) (x : nz_S) : Option (Int32 × nz_S) :=
  f_X7_leastSource_2 a0 a1 nz_F (0 : Int32) x fun u8 x7 =>
    some ((-9 : Int32), x7)
theorem ds_X7_leastSource : nz_dsc yX7_leastSource 2 := by unfold nz_dsc; decide +kernel
set_option maxHeartbeats 4000000 in
set_option maxRecDepth 20000 in
theorem w_X7_leastSource_2 {κ : nz_C} {q : Nat → Nat} {o : Int32 × nz_S} (c1 : Int32) (c2 : Int32) (E : nz_Env κ q nz_tK 4 cX7_leastSource RX7 (nz_T yX7_leastSource cX7_leastSource 4 (some .int)) (nz_R 0 0)) (hR : nz_RI κ q nz_tK .int o) : ∀ (fu : Nat) (w3 : Int32) (x : nz_S) (K : Int32 → nz_S → Option (Int32 × nz_S)), f_X7_leastSource_2 c1 c2 fu w3 x K = some o → (∀ (w3 : Int32) (x : nz_S), K w3 x = some o → nz_St κ q nz_tK 4 45 [(0, .ref (q 0)), (1, .int c1), (2, .int c2), (3, .int w3)] [] x) → nz_St κ q nz_tK 4 2 [(0, .ref (q 0)), (1, .int c1), (2, .int c2), (3, .int w3)] [] x := by
  intro fu
  induction fu with
  | zero => intro w3 x K hf; rw [f_X7_leastSource_2] at hf; cases hf
  | succ fu ih =>
    intro w3 x K hf hK
    rw [f_X7_leastSource_2] at hf
    refine nz_iload_n (pc := 2) (i := 3) E dX7_leastSource_2 rfl rfl ?_
    refine nz_aload_n (pc := 3) (i := 0) E dX7_leastSource_3 rfl rfl ?_
    refine nz_getR (pc := 4) (c := 0) (kf := 2) E rfl rfl (nz_upT nz_uX7) (by decide) (List.mem_cons_of_mem _ nz_w250) rfl rfl dX7_leastSource_4 ?_
    refine nz_getNI (pc := 7) (c := 7) (kf := 3) E rfl rfl (nz_upT nz_uX0) (by decide) nz_n113 rfl rfl dX7_leastSource_7 ?_
    refine nz_icmp_ge (pc := 10) (tgt := 45) E dX7_leastSource_10 (by decide) (fun h1 => ?_) (fun h1 => ?_)
    · have hf := nz_ite_t hf h1
      refine nz_weak (lv' := [(0, .ref (q 0)), (1, .int _), (2, .int _), (3, .int _)]) ⟨rfl, rfl, rfl, rfl, trivial⟩ ?_
      exact hK _ _ hf
    · have hf := nz_ite_f hf h1
      refine nz_iload_n (pc := 13) (i := 1) E dX7_leastSource_13 rfl rfl ?_
      refine nz_iload_n (pc := 14) (i := 3) E dX7_leastSource_14 rfl rfl ?_
      refine nz_ishr (pc := 15) E dX7_leastSource_15 ?_
      refine nz_iconst (pc := 16) (v := 1) E dX7_leastSource_16 (by decide) ?_
      refine nz_iand (pc := 17) E dX7_leastSource_17 ?_
      refine nz_if_eq (pc := 18) (tgt := 39) E dX7_leastSource_18 (by decide) (fun h2 => ?_) (fun h2 => ?_)
      · have hf := nz_ite_t hf h2
        refine nz_iinc (pc := 39) (i := 3) (w := 1) E dX7_leastSource_39 rfl (by decide) (by decide) rfl ?_
        refine nz_goto (pc := 42) (tgt := 2) E dX7_leastSource_42 (by decide) ?_
        refine nz_weak (lv' := [(0, .ref (q 0)), (1, .int _), (2, .int _), (3, .int _)]) ⟨rfl, rfl, rfl, rfl, trivial⟩ ?_
        exact ih _ _ _ hf hK
      · have hf := nz_ite_f hf h2
        refine nz_aload_n (pc := 21) (i := 0) E dX7_leastSource_21 rfl rfl ?_
        refine nz_getR (pc := 22) (c := 0) (kf := 3) E rfl rfl (nz_upT nz_uX7) (by decide) (List.mem_cons_of_mem _ nz_w251) rfl rfl dX7_leastSource_22 ?_
        refine nz_getNR (pc := 25) (c := 11) (kf := 3) E rfl rfl (nz_upT nz_uX5) (by decide) nz_n135 rfl rfl dX7_leastSource_25 ?_
        refine nz_iload_n (pc := 28) (i := 3) E dX7_leastSource_28 rfl rfl ?_
        obtain ⟨h4, hf⟩ := nz_chk_t hf
        refine nz_iald (pc := 29) (c := 15) E rfl h4 dX7_leastSource_29 ?_
        refine nz_iload_n (pc := 30) (i := 2) E dX7_leastSource_30 rfl rfl ?_
        refine nz_ishr (pc := 31) E dX7_leastSource_31 ?_
        refine nz_iconst (pc := 32) (v := 1) E dX7_leastSource_32 (by decide) ?_
        refine nz_iand (pc := 33) E dX7_leastSource_33 ?_
        refine nz_if_eq (pc := 34) (tgt := 39) E dX7_leastSource_34 (by decide) (fun h5 => ?_) (fun h5 => ?_)
        · have hf := nz_ite_t hf h5
          refine nz_iinc (pc := 39) (i := 3) (w := 1) E dX7_leastSource_39 rfl (by decide) (by decide) rfl ?_
          refine nz_goto (pc := 42) (tgt := 2) E dX7_leastSource_42 (by decide) ?_
          refine nz_weak (lv' := [(0, .ref (q 0)), (1, .int _), (2, .int _), (3, .int _)]) ⟨rfl, rfl, rfl, rfl, trivial⟩ ?_
          exact ih _ _ _ hf hK
        · have hf := nz_ite_f hf h5
          refine nz_iload_n (pc := 37) (i := 3) E dX7_leastSource_37 rfl rfl ?_
          exact nz_iret (pc := 38) E hR rfl hf dX7_leastSource_38
set_option maxHeartbeats 4000000 in
set_option maxRecDepth 20000 in
theorem k_X7_leastSource {l : Launch} {w : nz_O} {q : Nat → Nat} (a0 : Int32) (a1 : Int32) (x : nz_S) (o : Int32 × nz_S) (hf : f_X7_leastSource a0 a1 x = some o) : nz_MI l yX7_leastSource (nz_T yX7_leastSource cX7_leastSource 4 (some .int)) (nz_R 0 0) w q nz_tK [.ref (q 0), .int a0, .int a1] x o := by
  refine nz_enterI (by decide) rfl (Nat.le_of_ble_eq_true rfl) rfl rfl ?_
  intro κ E hw hlq hR
  subst hw; subst hlq
  unfold f_X7_leastSource at hf
  refine nz_weak (lv' := [(0, .ref (q 0)), (1, .int a0), (2, .int a1)]) ⟨rfl, rfl, rfl, trivial⟩ ?_
  refine nz_iconst (pc := 0) (v := 0) E dX7_leastSource_0 (by decide) ?_
  refine nz_istore_n (pc := 1) (i := 3) E dX7_leastSource_1 rfl (by decide) rfl ?_
  refine nz_weak (lv' := [(0, .ref (q 0)), (1, .int _), (2, .int _), (3, .int _)]) ⟨rfl, rfl, rfl, rfl, trivial⟩ ?_
  refine w_X7_leastSource_2 _ _ E hR _ _ _ _ hf (fun u8 x7 hf => ?_)
  refine nz_bipush (pc := 45) (v := -9) E dX7_leastSource_45 (by decide) ?_
  exact nz_iret (pc := 47) E hR rfl hf dX7_leastSource_47
