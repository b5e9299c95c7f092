def f_X7_mendOnce (x : nz_S) : Option (Int32 × nz_S) :=
  nz_bnd (f_X5_lastManyEntered   x) fun r1 x2 =>
  if r1 = (-9 : Int32) then
    some ((0 : Int32), x2)
  else
    nz_bnd (f_X5_nestOf  r1 x2) fun r5 x6 =>
    let v8 : Int32 := ((x6.1 11 9) &&& (r5 ^^^ (-1 : Int32)))
    nz_bnd (f_X7_leastTarget  v8 (r5 &&& (((1 : Int32) <<< (r1 &&& 31)) ^^^ (-1 : Int32))) x6) fun r9 x10 =>
    if r9 = (-9 : Int32) then
      some ((0 : Int32), x10)
    else
      nz_bnd (f_X7_leastSource  v8 r9 x10) fun r13 x14 =>
      nz_bnd (f_X0_copyBlockFor 7 r13 r9 x14) fun r16 x17 =>
      if r16 < (0 : Int32) then
        some ((0 : Int32), x17)
      else
        some ((1 : Int32), x17)
theorem ds_X7_mendOnce : nz_dsc yX7_mendOnce 0 := by unfold nz_dsc; decide +kernel
set_option maxHeartbeats 4000000 in
set_option maxRecDepth 20000 in
theorem k_X7_mendOnce {l : Launch} {w : nz_O} {q : Nat → Nat} (x : nz_S) (o : Int32 × nz_S) (hf : f_X7_mendOnce x = some o) : nz_MI l yX7_mendOnce (nz_T yX7_mendOnce cX7_mendOnce 5 (some .boolean)) (nz_R 3 71) w q nz_tK [.ref (q 0)] x o := by
  refine nz_enterI (by decide) rfl (Nat.le_of_ble_eq_true rfl) rfl rfl ?_
  intro κ E hw hlq hR
  subst hw; subst hlq
  unfold f_X7_mendOnce at hf
  refine nz_weak (lv' := [(0, .ref (q 0))]) ⟨rfl, trivial⟩ ?_
  refine nz_aload_n (pc := 0) (i := 0) E dX7_mendOnce_0 rfl rfl ?_
  refine nz_getR (pc := 1) (c := 0) (kf := 3) E rfl rfl (nz_upT nz_uX7) (by decide) (List.mem_cons_of_mem _ nz_w251) rfl rfl dX7_mendOnce_1 ?_
  obtain ⟨r1, x2, h3, hf⟩ := nz_bnd_t hf
  refine nz_callVI (pc := 4) (c0 := 11) (As := []) E rfl rfl (k_X5_lastManyEntered   _ _ h3) (nz_cwV E nz_w499 nz_w500 nz_w501 nz_w61 nz_w502 ds_X5_lastManyEntered ⟨Nat.le_of_ble_eq_true rfl, Nat.le_of_ble_eq_true rfl⟩ rfl rfl) rfl rfl (Nat.le_of_ble_eq_true rfl) dX7_mendOnce_4 ?_
  refine nz_istore_n (pc := 7) (i := 1) E dX7_mendOnce_7 rfl (by decide) rfl ?_
  refine nz_iload_n (pc := 8) (i := 1) E dX7_mendOnce_8 rfl rfl ?_
  refine nz_bipush (pc := 9) (v := -9) E dX7_mendOnce_9 (by decide) ?_
  refine nz_icmp_ne (pc := 11) (tgt := 16) E dX7_mendOnce_11 (by decide) (fun h4 => ?_) (fun h4 => ?_)
  · have hf := nz_ite_f hf h4
    refine nz_aload_n (pc := 16) (i := 0) E dX7_mendOnce_16 rfl rfl ?_
    refine nz_getR (pc := 17) (c := 0) (kf := 3) E rfl rfl (nz_upT nz_uX7) (by decide) (List.mem_cons_of_mem _ nz_w251) rfl rfl dX7_mendOnce_17 ?_
    refine nz_iload_n (pc := 20) (i := 1) E dX7_mendOnce_20 rfl rfl ?_
    obtain ⟨r5, x6, h7, hf⟩ := nz_bnd_t hf
    refine nz_callVI (pc := 21) (c0 := 11) (As := [.int _]) E rfl rfl (k_X5_nestOf   _ _ _ h7) (nz_cwV E nz_w438 nz_w439 nz_w440 nz_w61 nz_w441 ds_X5_nestOf ⟨Nat.le_of_ble_eq_true rfl, Nat.le_of_ble_eq_true rfl⟩ rfl rfl) rfl rfl (Nat.le_of_ble_eq_true rfl) dX7_mendOnce_21 ?_
    refine nz_istore_n (pc := 24) (i := 2) E dX7_mendOnce_24 rfl (by decide) rfl ?_
    refine nz_aload_n (pc := 25) (i := 0) E dX7_mendOnce_25 rfl rfl ?_
    refine nz_getR (pc := 26) (c := 0) (kf := 3) E rfl rfl (nz_upT nz_uX7) (by decide) (List.mem_cons_of_mem _ nz_w251) rfl rfl dX7_mendOnce_26 ?_
    refine nz_getNI (pc := 29) (c := 11) (kf := 9) E rfl rfl (nz_upT nz_uX5) (by decide) nz_n146 rfl rfl dX7_mendOnce_29 ?_
    refine nz_iload_n (pc := 32) (i := 2) E dX7_mendOnce_32 rfl rfl ?_
    refine nz_iconst (pc := 33) (v := -1) E dX7_mendOnce_33 (by decide) ?_
    refine nz_ixor (pc := 34) E dX7_mendOnce_34 ?_
    refine nz_iand (pc := 35) E dX7_mendOnce_35 ?_
    refine nz_istore_n (pc := 36) (i := 3) E dX7_mendOnce_36 rfl (by decide) rfl ?_
    refine nz_aload_n (pc := 37) (i := 0) E dX7_mendOnce_37 rfl rfl ?_
    refine nz_iload_n (pc := 38) (i := 3) E dX7_mendOnce_38 rfl rfl ?_
    refine nz_iload_n (pc := 39) (i := 2) E dX7_mendOnce_39 rfl rfl ?_
    refine nz_iconst (pc := 40) (v := 1) E dX7_mendOnce_40 (by decide) ?_
    refine nz_iload_n (pc := 41) (i := 1) E dX7_mendOnce_41 rfl rfl ?_
    refine nz_ishl (pc := 42) E dX7_mendOnce_42 ?_
    refine nz_iconst (pc := 43) (v := -1) E dX7_mendOnce_43 (by decide) ?_
    refine nz_ixor (pc := 44) E dX7_mendOnce_44 ?_
    refine nz_iand (pc := 45) E dX7_mendOnce_45 ?_
    obtain ⟨r9, x10, h11, hf⟩ := nz_bnd_t hf
    refine nz_callVI (pc := 46) (c0 := 0) (As := [.int _, .int _]) E rfl rfl (k_X7_leastTarget   _ _ _ _ h11) (nz_cwV E nz_w511 nz_w513 nz_w13 nz_w58 nz_w514 ds_X7_leastTarget ⟨Nat.le_of_ble_eq_true rfl, Nat.le_of_ble_eq_true rfl⟩ rfl rfl) rfl rfl (Nat.le_of_ble_eq_true rfl) dX7_mendOnce_46 ?_
    refine nz_istore (pc := 49) (i := 4) E dX7_mendOnce_49 (by decide) rfl ?_
    refine nz_iload (pc := 51) (i := 4) E dX7_mendOnce_51 rfl ?_
    refine nz_bipush (pc := 53) (v := -9) E dX7_mendOnce_53 (by decide) ?_
    refine nz_icmp_ne (pc := 55) (tgt := 60) E dX7_mendOnce_55 (by decide) (fun h12 => ?_) (fun h12 => ?_)
    · have hf := nz_ite_f hf h12
      refine nz_aload_n (pc := 60) (i := 0) E dX7_mendOnce_60 rfl rfl ?_
      refine nz_getR (pc := 61) (c := 0) (kf := 2) E rfl rfl (nz_upT nz_uX7) (by decide) (List.mem_cons_of_mem _ nz_w250) rfl rfl dX7_mendOnce_61 ?_
      refine nz_aload_n (pc := 64) (i := 0) E dX7_mendOnce_64 rfl rfl ?_
      refine nz_iload_n (pc := 65) (i := 3) E dX7_mendOnce_65 rfl rfl ?_
      refine nz_iload (pc := 66) (i := 4) E dX7_mendOnce_66 rfl ?_
      obtain ⟨r13, x14, h15, hf⟩ := nz_bnd_t hf
      refine nz_callVI (pc := 68) (c0 := 0) (As := [.int _, .int _]) E rfl rfl (k_X7_leastSource   _ _ _ _ h15) (nz_cwV E nz_w519 nz_w521 nz_w14 nz_w58 nz_w522 ds_X7_leastSource ⟨Nat.le_of_ble_eq_true rfl, Nat.le_of_ble_eq_true rfl⟩ rfl rfl) rfl rfl (Nat.le_of_ble_eq_true rfl) dX7_mendOnce_68 ?_
      refine nz_iload (pc := 71) (i := 4) E dX7_mendOnce_71 rfl ?_
      obtain ⟨r16, x17, h18, hf⟩ := nz_bnd_t hf
      refine nz_callVI (pc := 73) (c0 := 7) (As := [.int _, .int _]) E rfl rfl (k_X0_copyBlockFor 7 nz_g7 _ _ _ _ h18) (nz_cwV E nz_w482 nz_w483 nz_w484 nz_w60 nz_w485 ds_X0_copyBlockFor ⟨Nat.le_of_ble_eq_true rfl, Nat.le_of_ble_eq_true rfl⟩ rfl rfl) rfl rfl (Nat.le_of_ble_eq_true rfl) dX7_mendOnce_73 ?_
      refine nz_if_lt (pc := 76) (tgt := 83) E dX7_mendOnce_76 (by decide) (fun h19 => ?_) (fun h19 => ?_)
      · have hf := nz_ite_t hf h19
        refine nz_iconst (pc := 83) (v := 0) E dX7_mendOnce_83 (by decide) ?_
        exact nz_iret (pc := 84) E hR rfl hf dX7_mendOnce_84
      · have hf := nz_ite_f hf h19
        refine nz_iconst (pc := 79) (v := 1) E dX7_mendOnce_79 (by decide) ?_
        refine nz_goto (pc := 80) (tgt := 84) E dX7_mendOnce_80 (by decide) ?_
        exact nz_iret (pc := 84) E hR rfl hf dX7_mendOnce_84
    · have hf := nz_ite_t hf h12
      refine nz_iconst (pc := 58) (v := 0) E dX7_mendOnce_58 (by decide) ?_
      exact nz_iret (pc := 59) E hR rfl hf dX7_mendOnce_59
  · have hf := nz_ite_t hf h4
    refine nz_iconst (pc := 14) (v := 0) E dX7_mendOnce_14 (by decide) ?_
    exact nz_iret (pc := 15) E hR rfl hf dX7_mendOnce_15
def f_X7_mendTrial_4 : Nat → Int32 → Int32 → nz_S → (Int32 → Int32 → nz_S → Option (Int32 × nz_S)) → Option (Int32 × nz_S)
  | 0, _, _, _, _ => none
  | fu + 1, w1, w2, x, K =>
  if (12 : Int32) ≤ w2 then
    K w1 w2 x
  else
    nz_bnd (f_X5_read 7  x) fun r2 x3 =>
    nz_bnd (f_X7_mendOnce   x3) fun r5 x6 =>
    if r5 = (0 : Int32) then
      K w1 w2 x6
    else
      let v9 : Int32 := w1 + 1
      let v10 : Int32 := w2 + 1
      f_X7_mendTrial_4 fu v9 v10 x6 K
def f_X7_mendTrial (x : nz_S) : Option (Int32 × nz_S) :=
  f_X7_mendTrial_4 nz_F (0 : Int32) (0 : Int32) x fun u12 u13 x11 =>
    some (u12, x11)
theorem ds_X7_mendTrial : nz_dsc yX7_mendTrial 0 := by unfold nz_dsc; decide +kernel
set_option maxHeartbeats 4000000 in
set_option maxRecDepth 20000 in
theorem w_X7_mendTrial_4 {κ : nz_C} {q : Nat → Nat} {o : Int32 × nz_S} (E : nz_Env κ q nz_tK 3 cX7_mendTrial RX7 (nz_T yX7_mendTrial cX7_mendTrial 3 (some .int)) (nz_R 15 386)) (hR : nz_RI κ q nz_tK .int o) : ∀ (fu : Nat) (w1 : Int32) (w2 : Int32) (x : nz_S) (K : Int32 → Int32 → nz_S → Option (Int32 × nz_S)), f_X7_mendTrial_4 fu w1 w2 x K = some o → (∀ (w1 : Int32) (w2 : Int32) (x : nz_S), K w1 w2 x = some o → nz_St κ q nz_tK 3 40 [(0, .ref (q 0)), (1, .int w1), (2, .int w2)] [] x) → nz_St κ q nz_tK 3 4 [(0, .ref (q 0)), (1, .int w1), (2, .int w2)] [] x := by
  intro fu
  induction fu with
  | zero => intro w1 w2 x K hf; rw [f_X7_mendTrial_4] at hf; cases hf
  | succ fu ih =>
    intro w1 w2 x K hf hK
    rw [f_X7_mendTrial_4] at hf
    refine nz_iload_n (pc := 4) (i := 2) E dX7_mendTrial_4 rfl rfl ?_
    refine nz_bipush (pc := 5) (v := 12) E dX7_mendTrial_5 (by decide) ?_
    refine nz_icmp_ge (pc := 7) (tgt := 40) E dX7_mendTrial_7 (by decide) (fun h1 => ?_) (fun h1 => ?_)
    · have hf := nz_ite_t hf h1
      refine nz_weak (lv' := [(0, .ref (q 0)), (1, .int _), (2, .int _)]) ⟨rfl, rfl, rfl, trivial⟩ ?_
      exact hK _ _ _ hf
    · have hf := nz_ite_f hf h1
      refine nz_aload_n (pc := 10) (i := 0) E dX7_mendTrial_10 rfl rfl ?_
      refine nz_getR (pc := 11) (c := 0) (kf := 3) E rfl rfl (nz_upT nz_uX7) (by decide) (List.mem_cons_of_mem _ nz_w251) rfl rfl dX7_mendTrial_11 ?_
      refine nz_aload_n (pc := 14) (i := 0) E dX7_mendTrial_14 rfl rfl ?_
      refine nz_getR (pc := 15) (c := 0) (kf := 2) E rfl rfl (nz_upT nz_uX7) (by decide) (List.mem_cons_of_mem _ nz_w250) rfl rfl dX7_mendTrial_15 ?_
      obtain ⟨r2, x3, h4, hf⟩ := nz_bnd_t hf
      refine nz_callVV (pc := 18) (c0 := 11) (As := [.ref (q 7)]) E rfl rfl (k_X5_read 7 nz_g7 _ _ h4) (nz_cwV E nz_w343 nz_w344 nz_w345 nz_w61 nz_w346 ds_X5_read ⟨Nat.le_of_ble_eq_true rfl, Nat.le_of_ble_eq_true rfl⟩ rfl rfl) rfl rfl (Nat.le_of_ble_eq_true rfl) dX7_mendTrial_18 ?_
      refine nz_aload_n (pc := 21) (i := 0) E dX7_mendTrial_21 rfl rfl ?_
      obtain ⟨r5, x6, h7, hf⟩ := nz_bnd_t hf
      refine nz_callVI (pc := 22) (c0 := 0) (As := []) E rfl rfl (k_X7_mendOnce   _ _ h7) (nz_cwV E nz_w507 nz_w509 nz_w12 nz_w58 nz_w510 ds_X7_mendOnce ⟨Nat.le_of_ble_eq_true rfl, Nat.le_of_ble_eq_true rfl⟩ rfl rfl) rfl rfl (Nat.le_of_ble_eq_true rfl) dX7_mendTrial_22 ?_
      refine nz_if_ne (pc := 25) (tgt := 31) E dX7_mendTrial_25 (by decide) (fun h8 => ?_) (fun h8 => ?_)
      · have hf := nz_ite_f hf h8
        refine nz_iinc (pc := 31) (i := 1) (w := 1) E dX7_mendTrial_31 rfl (by decide) (by decide) rfl ?_
        refine nz_iinc (pc := 34) (i := 2) (w := 1) E dX7_mendTrial_34 rfl (by decide) (by decide) rfl ?_
        refine nz_goto (pc := 37) (tgt := 4) E dX7_mendTrial_37 (by decide) ?_
        refine nz_weak (lv' := [(0, .ref (q 0)), (1, .int _), (2, .int _)]) ⟨rfl, rfl, rfl, trivial⟩ ?_
        exact ih _ _ _ _ hf hK
      · have hf := nz_ite_t hf h8
        refine nz_goto (pc := 28) (tgt := 40) E dX7_mendTrial_28 (by decide) ?_
        refine nz_weak (lv' := [(0, .ref (q 0)), (1, .int _), (2, .int _)]) ⟨rfl, rfl, rfl, trivial⟩ ?_
        exact hK _ _ _ hf
set_option maxHeartbeats 4000000 in
set_option maxRecDepth 20000 in
theorem k_X7_mendTrial {l : Launch} {w : nz_O} {q : Nat → Nat} (x : nz_S) (o : Int32 × nz_S) (hf : f_X7_mendTrial x = some o) : nz_MI l yX7_mendTrial (nz_T yX7_mendTrial cX7_mendTrial 3 (some .int)) (nz_R 15 386) w q nz_tK [.ref (q 0)] x o := by
  refine nz_enterI (by decide) rfl (Nat.le_of_ble_eq_true rfl) rfl rfl ?_
  intro κ E hw hlq hR
  subst hw; subst hlq
  unfold f_X7_mendTrial at hf
  refine nz_weak (lv' := [(0, .ref (q 0))]) ⟨rfl, trivial⟩ ?_
  refine nz_iconst (pc := 0) (v := 0) E dX7_mendTrial_0 (by decide) ?_
  refine nz_istore_n (pc := 1) (i := 1) E dX7_mendTrial_1 rfl (by decide) rfl ?_
  refine nz_iconst (pc := 2) (v := 0) E dX7_mendTrial_2 (by decide) ?_
  refine nz_istore_n (pc := 3) (i := 2) E dX7_mendTrial_3 rfl (by decide) rfl ?_
  refine nz_weak (lv' := [(0, .ref (q 0)), (1, .int _), (2, .int _)]) ⟨rfl, rfl, rfl, trivial⟩ ?_
  refine w_X7_mendTrial_4 E hR _ _ _ _ _ hf (fun u12 u13 x11 hf => ?_)
  refine nz_iload_n (pc := 40) (i := 1) E dX7_mendTrial_40 rfl rfl ?_
  exact nz_iret (pc := 41) E hR rfl hf dX7_mendTrial_41
def f_X7_mend (x : nz_S) : Option (Int32 × nz_S) :=
  nz_bnd (f_X5_read 3  x) fun r1 x2 =>
  nz_bnd (f_X5_lastManyEntered   x2) fun r4 x5 =>
  if r4 = (-9 : Int32) then
    some ((-3 : Int32), x5)
  else
    nz_bnd (f_X0_copyFrom 7 3  x5) fun r8 x9 =>
    nz_bnd (f_X7_mendTrial   x9) fun r11 x12 =>
    nz_bnd (f_X7_settle  r11 x12) fun r14 x15 =>
    some (r14, x15)
theorem ds_X7_mend : nz_dsc yX7_mend 0 := by unfold nz_dsc; decide +kernel
set_option maxHeartbeats 4000000 in
set_option maxRecDepth 20000 in
theorem k_X7_mend {l : Launch} {w : nz_O} {q : Nat → Nat} (x : nz_S) (o : Int32 × nz_S) (hf : f_X7_mend x = some o) : nz_MI l yX7_mend (nz_T yX7_mend cX7_mend 1 (some .int)) (nz_R 16 408) w q nz_tK [.ref (q 0)] x o := by
  refine nz_enterI (by decide) rfl (Nat.le_of_ble_eq_true rfl) rfl rfl ?_
  intro κ E hw hlq hR
  subst hw; subst hlq
  unfold f_X7_mend at hf
  refine nz_weak (lv' := [(0, .ref (q 0))]) ⟨rfl, trivial⟩ ?_
  refine nz_aload_n (pc := 0) (i := 0) E dX7_mend_0 rfl rfl ?_
  refine nz_getR (pc := 1) (c := 0) (kf := 3) E rfl rfl (nz_upT nz_uX7) (by decide) (List.mem_cons_of_mem _ nz_w251) rfl rfl dX7_mend_1 ?_
  refine nz_aload_n (pc := 4) (i := 0) E dX7_mend_4 rfl rfl ?_
  refine nz_getR (pc := 5) (c := 0) (kf := 1) E rfl rfl (nz_upT nz_uX7) (by decide) (List.mem_cons_of_mem _ nz_w249) rfl rfl dX7_mend_5 ?_
  obtain ⟨r1, x2, h3, hf⟩ := nz_bnd_t hf
  refine nz_callVV (pc := 8) (c0 := 11) (As := [.ref (q 3)]) E rfl rfl (k_X5_read 3 nz_g3 _ _ h3) (nz_cwV E nz_w343 nz_w344 nz_w345 nz_w61 nz_w346 ds_X5_read ⟨Nat.le_of_ble_eq_true rfl, Nat.le_of_ble_eq_true rfl⟩ rfl rfl) rfl rfl (Nat.le_of_ble_eq_true rfl) dX7_mend_8 ?_
  refine nz_aload_n (pc := 11) (i := 0) E dX7_mend_11 rfl rfl ?_
  refine nz_getR (pc := 12) (c := 0) (kf := 3) E rfl rfl (nz_upT nz_uX7) (by decide) (List.mem_cons_of_mem _ nz_w251) rfl rfl dX7_mend_12 ?_
  obtain ⟨r4, x5, h6, hf⟩ := nz_bnd_t hf
  refine nz_callVI (pc := 15) (c0 := 11) (As := []) E rfl rfl (k_X5_lastManyEntered   _ _ h6) (nz_cwV E nz_w499 nz_w500 nz_w501 nz_w61 nz_w502 ds_X5_lastManyEntered ⟨Nat.le_of_ble_eq_true rfl, Nat.le_of_ble_eq_true rfl⟩ rfl rfl) rfl rfl (Nat.le_of_ble_eq_true rfl) dX7_mend_15 ?_
  refine nz_bipush (pc := 18) (v := -9) E dX7_mend_18 (by decide) ?_
  refine nz_icmp_ne (pc := 20) (tgt := 26) E dX7_mend_20 (by decide) (fun h7 => ?_) (fun h7 => ?_)
  · have hf := nz_ite_f hf h7
    refine nz_aload_n (pc := 26) (i := 0) E dX7_mend_26 rfl rfl ?_
    refine nz_getR (pc := 27) (c := 0) (kf := 2) E rfl rfl (nz_upT nz_uX7) (by decide) (List.mem_cons_of_mem _ nz_w250) rfl rfl dX7_mend_27 ?_
    refine nz_aload_n (pc := 30) (i := 0) E dX7_mend_30 rfl rfl ?_
    refine nz_getR (pc := 31) (c := 0) (kf := 1) E rfl rfl (nz_upT nz_uX7) (by decide) (List.mem_cons_of_mem _ nz_w249) rfl rfl dX7_mend_31 ?_
    obtain ⟨r8, x9, h10, hf⟩ := nz_bnd_t hf
    refine nz_callVV (pc := 34) (c0 := 7) (As := [.ref (q 3)]) E rfl rfl (k_X0_copyFrom 7 3 nz_g7 nz_g3 _ _ h10) (nz_cwV E nz_w316 nz_w317 nz_w318 nz_w60 nz_w319 ds_X0_copyFrom ⟨Nat.le_of_ble_eq_true rfl, Nat.le_of_ble_eq_true rfl⟩ rfl rfl) rfl rfl (Nat.le_of_ble_eq_true rfl) dX7_mend_34 ?_
    refine nz_aload_n (pc := 37) (i := 0) E dX7_mend_37 rfl rfl ?_
    refine nz_aload_n (pc := 38) (i := 0) E dX7_mend_38 rfl rfl ?_
    obtain ⟨r11, x12, h13, hf⟩ := nz_bnd_t hf
    refine nz_callVI (pc := 39) (c0 := 0) (As := []) E rfl rfl (k_X7_mendTrial   _ _ h13) (nz_cwV E nz_w503 nz_w505 nz_w11 nz_w58 nz_w506 ds_X7_mendTrial ⟨Nat.le_of_ble_eq_true rfl, Nat.le_of_ble_eq_true rfl⟩ rfl rfl) rfl rfl (Nat.le_of_ble_eq_true rfl) dX7_mend_39 ?_
    obtain ⟨r14, x15, h16, hf⟩ := nz_bnd_t hf
    refine nz_callVI (pc := 42) (c0 := 0) (As := [.int _]) E rfl rfl (k_X7_settle   _ _ _ h16) (nz_cwV E nz_w451 nz_w453 nz_w8 nz_w58 nz_w454 ds_X7_settle ⟨Nat.le_of_ble_eq_true rfl, Nat.le_of_ble_eq_true rfl⟩ rfl rfl) rfl rfl (Nat.le_of_ble_eq_true rfl) dX7_mend_42 ?_
    exact nz_iret (pc := 45) E hR rfl hf dX7_mend_45
  · have hf := nz_ite_t hf h7
    refine nz_bipush (pc := 23) (v := -3) E dX7_mend_23 (by decide) ?_
    exact nz_iret (pc := 25) E hR rfl hf dX7_mend_25
def f_X2_bringBack (h : Nat) (n : Nat) (g : Nat) (a0 : Int32) (x : nz_S) : Option (Unit × nz_S) :=
  if a0 < (0 : Int32) then
    some ((), x)
  else
    if a0 < (nI n) then
      let v3 : Int32 := (a0 * (12 : Int32))
      nz_chk (nz_in a0 n) <|
      let x5 : nz_S := nz_put x g 3 (x.1 (h + 1) (a0).toNatClampNeg)
      nz_chk (nz_cpok v3 (0 : Int32) (12 : Int32) (n * 12) 12) <|
      let x7 : nz_S := nz_set x5 (g + 1) (va_cpy (x5.1 (h + 2)) (x5.1 (g + 1)) (v3).toNatClampNeg ((0 : Int32)).toNatClampNeg ((12 : Int32)).toNatClampNeg)
      nz_chk (nz_cpok v3 (0 : Int32) (12 : Int32) (n * 12) 12) <|
      let x9 : nz_S := nz_set x7 (g + 2) (va_cpy (x7.1 (h + 3)) (x7.1 (g + 2)) (v3).toNatClampNeg ((0 : Int32)).toNatClampNeg ((12 : Int32)).toNatClampNeg)
      nz_chk (nz_cpok (v3 * (3 : Int32)) (0 : Int32) (36 : Int32) (n * 36) 36) <|
      let x11 : nz_S := nz_set x9 (g + 3) (va_cpy (x9.1 (h + 4)) (x9.1 (g + 3)) ((v3 * (3 : Int32))).toNatClampNeg ((0 : Int32)).toNatClampNeg ((36 : Int32)).toNatClampNeg)
      some ((), x11)
    else
      some ((), x)
theorem ds_X2_bringBack : nz_dsc yX2_bringBack 2 := by unfold nz_dsc; decide +kernel
set_option maxHeartbeats 4000000 in
set_option maxRecDepth 20000 in
theorem k_X2_bringBack {l : Launch} {w : nz_O} {q : Nat → Nat} (h : Nat) (n : Nat) (g : Nat) (hh : nz_isH h n) (hg : nz_isG g) (a0 : Int32) (x : nz_S) (o : Unit × nz_S) (hf : f_X2_bringBack h n g a0 x = some o) : nz_MV l yX2_bringBack (nz_T yX2_bringBack cX2_bringBack 4 (none)) (nz_R 1 40) w q nz_tK [.ref (q h), .int a0, .ref (q g)] x o := by
  refine nz_enterV (by decide) rfl (Nat.le_of_ble_eq_true rfl) rfl rfl ?_
  intro κ E hw hlq hR
  subst hw; subst hlq
  unfold f_X2_bringBack at hf
  refine nz_weak (lv' := [(0, .ref (q h)), (1, .int a0), (2, .ref (q g))]) ⟨rfl, rfl, rfl, trivial⟩ ?_
  refine nz_iload_n (pc := 0) (i := 1) E dX2_bringBack_0 rfl rfl ?_
  refine nz_if_lt (pc := 1) (tgt := 13) E dX2_bringBack_1 (by decide) (fun h1 => ?_) (fun h1 => ?_)
  · have hf := nz_ite_t hf h1
    exact nz_vret (pc := 13) E hR hf dX2_bringBack_13
  · have hf := nz_ite_f hf h1
    refine nz_iload_n (pc := 4) (i := 1) E dX2_bringBack_4 rfl rfl ?_
    refine nz_aload_n (pc := 5) (i := 0) E dX2_bringBack_5 rfl rfl ?_
    refine nz_getR (pc := 6) (c := h) (kf := 0) E hh.1 rfl (nz_upT nz_uX2) (by decide) (List.mem_cons_of_mem _ nz_w187) rfl rfl dX2_bringBack_6 ?_
    refine nz_alen (pc := 9) (c := (h + 1)) E hh.2.1 dX2_bringBack_9 ?_
    refine nz_icmp_lt (pc := 10) (tgt := 14) E dX2_bringBack_10 (by decide) (fun h2 => ?_) (fun h2 => ?_)
    · have hf := nz_ite_t hf h2
      refine nz_iload_n (pc := 14) (i := 1) E dX2_bringBack_14 rfl rfl ?_
      refine nz_bipush (pc := 15) (v := 12) E dX2_bringBack_15 (by decide) ?_
      refine nz_imul (pc := 17) E dX2_bringBack_17 ?_
      refine nz_istore_n (pc := 18) (i := 3) E dX2_bringBack_18 rfl (by decide) rfl ?_
      refine nz_aload_n (pc := 19) (i := 2) E dX2_bringBack_19 rfl rfl ?_
      refine nz_aload_n (pc := 20) (i := 0) E dX2_bringBack_20 rfl rfl ?_
      refine nz_getR (pc := 21) (c := h) (kf := 0) E hh.1 rfl (nz_upT nz_uX2) (by decide) (List.mem_cons_of_mem _ nz_w187) rfl rfl dX2_bringBack_21 ?_
      refine nz_iload_n (pc := 24) (i := 1) E dX2_bringBack_24 rfl rfl ?_
      obtain ⟨h4, hf⟩ := nz_chk_t hf
      refine nz_iald (pc := 25) (c := (h + 1)) E hh.2.1 h4 dX2_bringBack_25 ?_
      refine nz_putNI (pc := 26) (c := g) (kf := 3) E hg.1 rfl (nz_upT nz_uX0) (by decide) nz_n111 rfl tyX0 tyX0_ok nmX0 rfl (tyX0_ok 3 (by decide)) rfl dX2_bringBack_26 ?_
      refine nz_aload_n (pc := 29) (i := 0) E dX2_bringBack_29 rfl rfl ?_
      refine nz_getR (pc := 30) (c := h) (kf := 1) E hh.1 rfl (nz_upT nz_uX2) (by decide) (List.mem_cons_of_mem _ nz_w188) rfl rfl dX2_bringBack_30 ?_
      refine nz_iload_n (pc := 33) (i := 3) E dX2_bringBack_33 rfl rfl ?_
      refine nz_aload_n (pc := 34) (i := 2) E dX2_bringBack_34 rfl rfl ?_
      refine nz_getNR (pc := 35) (c := g) (kf := 0) E hg.1 rfl (nz_upT nz_uX0) (by decide) nz_n101 rfl rfl dX2_bringBack_35 ?_
      refine nz_iconst (pc := 38) (v := 0) E dX2_bringBack_38 (by decide) ?_
      refine nz_bipush (pc := 39) (v := 12) E dX2_bringBack_39 (by decide) ?_
      obtain ⟨h6, hf⟩ := nz_chk_t hf
      refine nz_copy (pc := 41) (c1 := (h + 2)) (c2 := (g + 1)) E hh.2.2.1 hg.2.1 nz_w463 nz_w322 nz_w321 nz_w68 h6 (by decide) (by decide) dX2_bringBack_41 ?_
      refine nz_aload_n (pc := 44) (i := 0) E dX2_bringBack_44 rfl rfl ?_
      refine nz_getR (pc := 45) (c := h) (kf := 2) E hh.1 rfl (nz_upT nz_uX2) (by decide) (List.mem_cons_of_mem _ nz_w189) rfl rfl dX2_bringBack_45 ?_
      refine nz_iload_n (pc := 48) (i := 3) E dX2_bringBack_48 rfl rfl ?_
      refine nz_aload_n (pc := 49) (i := 2) E dX2_bringBack_49 rfl rfl ?_
      refine nz_getNR (pc := 50) (c := g) (kf := 1) E hg.1 rfl (nz_upT nz_uX0) (by decide) nz_n104 rfl rfl dX2_bringBack_50 ?_
      refine nz_iconst (pc := 53) (v := 0) E dX2_bringBack_53 (by decide) ?_
      refine nz_bipush (pc := 54) (v := 12) E dX2_bringBack_54 (by decide) ?_
      obtain ⟨h8, hf⟩ := nz_chk_t hf
      refine nz_copy (pc := 56) (c1 := (h + 3)) (c2 := (g + 2)) E hh.2.2.2.1 hg.2.2.1 nz_w463 nz_w322 nz_w321 nz_w68 h8 (by decide) (by decide) dX2_bringBack_56 ?_
      refine nz_aload_n (pc := 59) (i := 0) E dX2_bringBack_59 rfl rfl ?_
      refine nz_getR (pc := 60) (c := h) (kf := 3) E hh.1 rfl (nz_upT nz_uX2) (by decide) (List.mem_cons_of_mem _ nz_w190) rfl rfl dX2_bringBack_60 ?_
      refine nz_iload_n (pc := 63) (i := 3) E dX2_bringBack_63 rfl rfl ?_
      refine nz_iconst (pc := 64) (v := 3) E dX2_bringBack_64 (by decide) ?_
      refine nz_imul (pc := 65) E dX2_bringBack_65 ?_
      refine nz_aload_n (pc := 66) (i := 2) E dX2_bringBack_66 rfl rfl ?_
      refine nz_getNR (pc := 67) (c := g) (kf := 2) E hg.1 rfl (nz_upT nz_uX0) (by decide) nz_n108 rfl rfl dX2_bringBack_67 ?_
      refine nz_iconst (pc := 70) (v := 0) E dX2_bringBack_70 (by decide) ?_
      refine nz_bipush (pc := 71) (v := 36) E dX2_bringBack_71 (by decide) ?_
      obtain ⟨h10, hf⟩ := nz_chk_t hf
      refine nz_copy (pc := 73) (c1 := (h + 4)) (c2 := (g + 3)) E hh.2.2.2.2 hg.2.2.2 nz_w463 nz_w322 nz_w321 nz_w68 h10 (by decide) (by decide) dX2_bringBack_73 ?_
      exact nz_vret (pc := 76) E hR hf dX2_bringBack_76
    · have hf := nz_ite_f hf h2
      exact nz_vret (pc := 13) E hR hf dX2_bringBack_13
def f_X1_bringLastBack (g : Nat) (x : nz_S) : Option (Unit × nz_S) :=
  if (x.1 20 2) ≤ (0 : Int32) then
    some ((), x)
  else
    let x2 : nz_S := nz_put x 20 2 ((x.1 20 2) - (1 : Int32))
    let v3 : Int32 := ((x2.1 20 1) + (x2.1 20 2))
    nz_bnd (f_X2_bringBack 21 14 g (v3 - v3 / (14 : Int32) * (14 : Int32)) x2) fun r4 x5 =>
    some ((), x5)
theorem ds_X1_bringLastBack : nz_dsc yX1_bringLastBack 1 := by unfold nz_dsc; decide +kernel
set_option maxHeartbeats 4000000 in
set_option maxRecDepth 20000 in
theorem k_X1_bringLastBack {l : Launch} {w : nz_O} {q : Nat → Nat} (g : Nat) (hg : nz_isG g) (x : nz_S) (o : Unit × nz_S) (hf : f_X1_bringLastBack g x = some o) : nz_MV l yX1_bringLastBack (nz_T yX1_bringLastBack cX1_bringLastBack 2 (none)) (nz_R 2 63) w q nz_tK [.ref (q 20), .ref (q g)] x o := by
  refine nz_enterV (by decide) rfl (Nat.le_of_ble_eq_true rfl) rfl rfl ?_
  intro κ E hw hlq hR
  subst hw; subst hlq
  unfold f_X1_bringLastBack at hf
  refine nz_weak (lv' := [(0, .ref (q 20)), (1, .ref (q g))]) ⟨rfl, rfl, trivial⟩ ?_
  refine nz_aload_n (pc := 0) (i := 0) E dX1_bringLastBack_0 rfl rfl ?_
  refine nz_getI (pc := 1) (c := 20) (kf := 2) E rfl rfl (nz_upT nz_uX1) (by decide) (List.mem_cons_of_mem _ nz_w202) rfl rfl dX1_bringLastBack_1 ?_
  refine nz_if_le (pc := 4) (tgt := 37) E dX1_bringLastBack_4 (by decide) (fun h1 => ?_) (fun h1 => ?_)
  · have hf := nz_ite_t hf h1
    exact nz_vret (pc := 37) E hR hf dX1_bringLastBack_37
  · have hf := nz_ite_f hf h1
    refine nz_aload_n (pc := 7) (i := 0) E dX1_bringLastBack_7 rfl rfl ?_
    refine nz_dup (pc := 8) E dX1_bringLastBack_8 rfl ?_
    refine nz_getI (pc := 9) (c := 20) (kf := 2) E rfl rfl (nz_upT nz_uX1) (by decide) (List.mem_cons_of_mem _ nz_w202) rfl rfl dX1_bringLastBack_9 ?_
    refine nz_iconst (pc := 12) (v := 1) E dX1_bringLastBack_12 (by decide) ?_
    refine nz_isub (pc := 13) E dX1_bringLastBack_13 ?_
    refine nz_putI (pc := 14) (c := 20) (kf := 2) E rfl rfl (nz_upT nz_uX1) (by decide) (List.mem_cons_of_mem _ nz_w202) rfl tyX1 tyX1_ok nmX1 rfl (tyX1_ok 2 (by decide)) rfl dX1_bringLastBack_14 ?_
    refine nz_aload_n (pc := 17) (i := 0) E dX1_bringLastBack_17 rfl rfl ?_
    refine nz_getR (pc := 18) (c := 20) (kf := 0) E rfl rfl (nz_upT nz_uX1) (by decide) (List.mem_cons_of_mem _ nz_w200) rfl rfl dX1_bringLastBack_18 ?_
    refine nz_aload_n (pc := 21) (i := 0) E dX1_bringLastBack_21 rfl rfl ?_
    refine nz_getI (pc := 22) (c := 20) (kf := 1) E rfl rfl (nz_upT nz_uX1) (by decide) (List.mem_cons_of_mem _ nz_w201) rfl rfl dX1_bringLastBack_22 ?_
    refine nz_aload_n (pc := 25) (i := 0) E dX1_bringLastBack_25 rfl rfl ?_
    refine nz_getI (pc := 26) (c := 20) (kf := 2) E rfl rfl (nz_upT nz_uX1) (by decide) (List.mem_cons_of_mem _ nz_w202) rfl rfl dX1_bringLastBack_26 ?_
    refine nz_iadd (pc := 29) E dX1_bringLastBack_29 ?_
    refine nz_bipush (pc := 30) (v := 14) E dX1_bringLastBack_30 (by decide) ?_
    refine nz_irem (pc := 32) E dX1_bringLastBack_32 (by decide) ?_
    refine nz_aload_n (pc := 33) (i := 1) E dX1_bringLastBack_33 rfl rfl ?_
    obtain ⟨r4, x5, h6, hf⟩ := nz_bnd_t hf
    refine nz_callVV (pc := 34) (c0 := 21) (As := [.int _, .ref (q g)]) E rfl rfl (k_X2_bringBack 21 14 g nz_h21 hg _ _ _ h6) (nz_cwV E nz_w531 nz_w532 nz_w533 nz_w63 nz_w534 ds_X2_bringBack ⟨Nat.le_of_ble_eq_true rfl, Nat.le_of_ble_eq_true rfl⟩ rfl rfl) rfl rfl (Nat.le_of_ble_eq_true rfl) dX1_bringLastBack_34 ?_
    exact nz_vret (pc := 37) E hR hf dX1_bringLastBack_37
def f_X7_undo (x : nz_S) : Option (Int32 × nz_S) :=
  if (x.1 20 2) = (0 : Int32) then
    some ((-3 : Int32), x)
  else
    nz_bnd (f_X1_bringLastBack 3  x) fun r2 x3 =>
    some ((x3.1 20 2), x3)
theorem ds_X7_undo : nz_dsc yX7_undo 0 := by unfold nz_dsc; decide +kernel
set_option maxHeartbeats 4000000 in
set_option maxRecDepth 20000 in
theorem k_X7_undo {l : Launch} {w : nz_O} {q : Nat → Nat} (x : nz_S) (o : Int32 × nz_S) (hf : f_X7_undo x = some o) : nz_MI l yX7_undo (nz_T yX7_undo cX7_undo 1 (some .int)) (nz_R 3 84) w q nz_tK [.ref (q 0)] x o := by
  refine nz_enterI (by decide) rfl (Nat.le_of_ble_eq_true rfl) rfl rfl ?_
  intro κ E hw hlq hR
  subst hw; subst hlq
  unfold f_X7_undo at hf
  refine nz_weak (lv' := [(0, .ref (q 0))]) ⟨rfl, trivial⟩ ?_
  refine nz_aload_n (pc := 0) (i := 0) E dX7_undo_0 rfl rfl ?_
  refine nz_getR (pc := 1) (c := 0) (kf := 4) E rfl rfl (nz_upT nz_uX7) (by decide) (List.mem_cons_of_mem _ nz_w252) rfl rfl dX7_undo_1 ?_
  refine nz_getNI (pc := 4) (c := 20) (kf := 2) E rfl rfl (nz_upT nz_uX1) (by decide) nz_n203 rfl rfl dX7_undo_4 ?_
  refine nz_if_ne (pc := 7) (tgt := 13) E dX7_undo_7 (by decide) (fun h1 => ?_) (fun h1 => ?_)
  · have hf := nz_ite_f hf h1
    refine nz_aload_n (pc := 13) (i := 0) E dX7_undo_13 rfl rfl ?_
    refine nz_getR (pc := 14) (c := 0) (kf := 4) E rfl rfl (nz_upT nz_uX7) (by decide) (List.mem_cons_of_mem _ nz_w252) rfl rfl dX7_undo_14 ?_
    refine nz_aload_n (pc := 17) (i := 0) E dX7_undo_17 rfl rfl ?_
    refine nz_getR (pc := 18) (c := 0) (kf := 1) E rfl rfl (nz_upT nz_uX7) (by decide) (List.mem_cons_of_mem _ nz_w249) rfl rfl dX7_undo_18 ?_
    obtain ⟨r2, x3, h4, hf⟩ := nz_bnd_t hf
    refine nz_callVV (pc := 21) (c0 := 20) (As := [.ref (q 3)]) E rfl rfl (k_X1_bringLastBack 3 nz_g3 _ _ h4) (nz_cwV E nz_w527 nz_w528 nz_w529 nz_w62 nz_w530 ds_X1_bringLastBack ⟨Nat.le_of_ble_eq_true rfl, Nat.le_of_ble_eq_true rfl⟩ rfl rfl) rfl rfl (Nat.le_of_ble_eq_true rfl) dX7_undo_21 ?_
    refine nz_aload_n (pc := 24) (i := 0) E dX7_undo_24 rfl rfl ?_
    refine nz_getR (pc := 25) (c := 0) (kf := 4) E rfl rfl (nz_upT nz_uX7) (by decide) (List.mem_cons_of_mem _ nz_w252) rfl rfl dX7_undo_25 ?_
    refine nz_getNI (pc := 28) (c := 20) (kf := 2) E rfl rfl (nz_upT nz_uX1) (by decide) nz_n203 rfl rfl dX7_undo_28 ?_
    exact nz_iret (pc := 31) E hR rfl hf dX7_undo_31
  · have hf := nz_ite_t hf h1
    refine nz_bipush (pc := 10) (v := -3) E dX7_undo_10 (by decide) ?_
    exact nz_iret (pc := 12) E hR rfl hf dX7_undo_12
def f_X7_tens_4 (c0 : Int32) : Nat → Int64 → Int32 → nz_S → (Int64 → Int32 → nz_S → Option (Int64 × nz_S)) → Option (Int64 × nz_S)
  | 0, _, _, _, _ => none
  | fu + 1, w1, w3, x, K =>
  if c0 ≤ w3 then
    K w1 w3 x
  else
    let v2 : Int64 := (w1 * (10 : Int64))
    let v3 : Int32 := w3 + 1
    f_X7_tens_4 c0 fu v2 v3 x K
def f_X7_tens (a0 : Int32) (x : nz_S) : Option (Int64 × nz_S) :=
  f_X7_tens_4 a0 nz_F (1 : Int64) (0 : Int32) x fun u5 u6 x4 =>
    some (u5, x4)
theorem ds_X7_tens : nz_dsc yX7_tens 1 := by unfold nz_dsc; decide +kernel
set_option maxHeartbeats 4000000 in
set_option maxRecDepth 20000 in
theorem w_X7_tens_4 {κ : nz_C} {q : Nat → Nat} {o : Int64 × nz_S} (c0 : Int32) (E : nz_Env κ q nz_tK 4 cX7_tens RX7 (nz_T yX7_tens cX7_tens 4 (some .long)) (nz_R 0 0)) (hR : nz_RL κ q nz_tK o) : ∀ (fu : Nat) (w1 : Int64) (w3 : Int32) (x : nz_S) (K : Int64 → Int32 → nz_S → Option (Int64 × nz_S)), f_X7_tens_4 c0 fu w1 w3 x K = some o → (∀ (w1 : Int64) (w3 : Int32) (x : nz_S), K w1 w3 x = some o → nz_St κ q nz_tK 4 21 [(0, .int c0), (1, .long w1), (3, .int w3)] [] x) → nz_St κ q nz_tK 4 4 [(0, .int c0), (1, .long w1), (3, .int w3)] [] x := by
  intro fu
  induction fu with
  | zero => intro w1 w3 x K hf; rw [f_X7_tens_4] at hf; cases hf
  | succ fu ih =>
    intro w1 w3 x K hf hK
    rw [f_X7_tens_4] at hf
    refine nz_iload_n (pc := 4) (i := 3) E dX7_tens_4 rfl rfl ?_
    refine nz_iload_n (pc := 5) (i := 0) E dX7_tens_5 rfl rfl ?_
    refine nz_icmp_ge (pc := 6) (tgt := 21) E dX7_tens_6 (by decide) (fun h1 => ?_) (fun h1 => ?_)
    · have hf := nz_ite_t hf h1
      refine nz_weak (lv' := [(0, .int _), (1, .long _), (3, .int _)]) ⟨rfl, rfl, rfl, trivial⟩ ?_
      exact hK _ _ _ hf
    · have hf := nz_ite_f hf h1
      refine nz_lload_n (pc := 9) (i := 1) E dX7_tens_9 rfl rfl ?_
      refine nz_ldc2 (pc := 10) E (List.mem_cons_of_mem _ nz_w545) dX7_tens_10 ?_
      refine nz_lmul (pc := 13) E dX7_tens_13 ?_
      refine nz_lstore_n (pc := 14) (i := 1) E dX7_tens_14 rfl (by decide) rfl rfl ?_
      refine nz_iinc (pc := 15) (i := 3) (w := 1) E dX7_tens_15 rfl (by decide) (by decide) rfl ?_
      refine nz_goto (pc := 18) (tgt := 4) E dX7_tens_18 (by decide) ?_
      refine nz_weak (lv' := [(0, .int _), (1, .long _), (3, .int _)]) ⟨rfl, rfl, rfl, trivial⟩ ?_
      exact ih _ _ _ _ hf hK
set_option maxHeartbeats 4000000 in
set_option maxRecDepth 20000 in
theorem k_X7_tens {l : Launch} {w : nz_O} {q : Nat → Nat} (a0 : Int32) (x : nz_S) (o : Int64 × nz_S) (hf : f_X7_tens a0 x = some o) : nz_ML l yX7_tens (nz_T yX7_tens cX7_tens 4 (some .long)) (nz_R 0 0) w q nz_tK [.int a0] x o := by
  refine nz_enterL (by decide) rfl (Nat.le_of_ble_eq_true rfl) rfl rfl ?_
  intro κ E hw hlq hR
  subst hw; subst hlq
  unfold f_X7_tens at hf
  refine nz_weak (lv' := [(0, .int a0)]) ⟨rfl, trivial⟩ ?_
  refine nz_lconst (pc := 0) (v := 1) E dX7_tens_0 (by decide) ?_
  refine nz_lstore_n (pc := 1) (i := 1) E dX7_tens_1 rfl (by decide) rfl rfl ?_
  refine nz_iconst (pc := 2) (v := 0) E dX7_tens_2 (by decide) ?_
  refine nz_istore_n (pc := 3) (i := 3) E dX7_tens_3 rfl (by decide) rfl ?_
  refine nz_weak (lv' := [(0, .int _), (1, .long _), (3, .int _)]) ⟨rfl, rfl, rfl, trivial⟩ ?_
  refine w_X7_tens_4 _ E hR _ _ _ _ _ hf (fun u5 u6 x4 hf => ?_)
  refine nz_lload_n (pc := 21) (i := 1) E dX7_tens_21 rfl rfl ?_
  exact nz_lret (pc := 22) E hR hf dX7_tens_22
def f_X7_figure_5 (c2 : Int32) : Nat → Int64 → Int32 → nz_S → (Int64 → Int32 → nz_S → Option (Int32 × nz_S)) → Option (Int32 × nz_S)
  | 0, _, _, _, _ => none
  | fu + 1, w3, w5, x, K =>
  if c2 ≤ w5 then
    K w3 w5 x
  else
    let v2 : Int64 := (w3 / (10 : Int64))
    let v3 : Int32 := w5 + 1
    f_X7_figure_5 c2 fu v2 v3 x K
def f_X7_figure (a0 : Int64) (a1 : Int32) (x : nz_S) : Option (Int32 × nz_S) :=
  f_X7_figure_5 a1 nz_F a0 (0 : Int32) x fun u5 u6 x4 =>
    some (((u5 - u5 / (10 : Int64) * (10 : Int64))).toInt32, x4)
theorem ds_X7_figure : nz_dsc yX7_figure 2 := by unfold nz_dsc; decide +kernel
set_option maxHeartbeats 4000000 in
set_option maxRecDepth 20000 in
theorem w_X7_figure_5 {κ : nz_C} {q : Nat → Nat} {o : Int32 × nz_S} (c2 : Int32) (E : nz_Env κ q nz_tK 6 cX7_figure RX7 (nz_T yX7_figure cX7_figure 6 (some .int)) (nz_R 0 0)) (hR : nz_RI κ q nz_tK .int o) : ∀ (fu : Nat) (w3 : Int64) (w5 : Int32) (x : nz_S) (K : Int64 → Int32 → nz_S → Option (Int32 × nz_S)), f_X7_figure_5 c2 fu w3 w5 x K = some o → (∀ (w3 : Int64) (w5 : Int32) (x : nz_S), K w3 w5 x = some o → nz_St κ q nz_tK 6 23 [(2, .int c2), (3, .long w3), (5, .int w5)] [] x) → nz_St κ q nz_tK 6 5 [(2, .int c2), (3, .long w3), (5, .int w5)] [] x := by
  intro fu
  induction fu with
  | zero => intro w3 w5 x K hf; rw [f_X7_figure_5] at hf; cases hf
  | succ fu ih =>
    intro w3 w5 x K hf hK
    rw [f_X7_figure_5] at hf
    refine nz_iload (pc := 5) (i := 5) E dX7_figure_5 rfl ?_
    refine nz_iload_n (pc := 7) (i := 2) E dX7_figure_7 rfl rfl ?_
    refine nz_icmp_ge (pc := 8) (tgt := 23) E dX7_figure_8 (by decide) (fun h1 => ?_) (fun h1 => ?_)
    · have hf := nz_ite_t hf h1
      refine nz_weak (lv' := [(2, .int _), (3, .long _), (5, .int _)]) ⟨rfl, rfl, rfl, trivial⟩ ?_
      exact hK _ _ _ hf
    · have hf := nz_ite_f hf h1
      refine nz_lload_n (pc := 11) (i := 3) E dX7_figure_11 rfl rfl ?_
      refine nz_ldc2 (pc := 12) E (List.mem_cons_of_mem _ nz_w545) dX7_figure_12 ?_
      refine nz_ldiv (pc := 15) E dX7_figure_15 (by decide) ?_
      refine nz_lstore_n (pc := 16) (i := 3) E dX7_figure_16 rfl (by decide) rfl rfl ?_
      refine nz_iinc (pc := 17) (i := 5) (w := 1) E dX7_figure_17 rfl (by decide) (by decide) rfl ?_
      refine nz_goto (pc := 20) (tgt := 5) E dX7_figure_20 (by decide) ?_
      refine nz_weak (lv' := [(2, .int _), (3, .long _), (5, .int _)]) ⟨rfl, rfl, rfl, trivial⟩ ?_
      exact ih _ _ _ _ hf hK
set_option maxHeartbeats 4000000 in
set_option maxRecDepth 20000 in
theorem k_X7_figure {l : Launch} {w : nz_O} {q : Nat → Nat} (a0 : Int64) (a1 : Int32) (x : nz_S) (o : Int32 × nz_S) (hf : f_X7_figure a0 a1 x = some o) : nz_MI l yX7_figure (nz_T yX7_figure cX7_figure 6 (some .int)) (nz_R 0 0) w q nz_tK [.long a0, .int a1] x o := by
  refine nz_enterI (by decide) rfl (Nat.le_of_ble_eq_true rfl) rfl rfl ?_
  intro κ E hw hlq hR
  subst hw; subst hlq
  unfold f_X7_figure at hf
  refine nz_weak (lv' := [(0, .long a0), (2, .int a1)]) ⟨rfl, rfl, trivial⟩ ?_
  refine nz_lload_n (pc := 0) (i := 0) E dX7_figure_0 rfl rfl ?_
  refine nz_lstore_n (pc := 1) (i := 3) E dX7_figure_1 rfl (by decide) rfl rfl ?_
  refine nz_iconst (pc := 2) (v := 0) E dX7_figure_2 (by decide) ?_
  refine nz_istore (pc := 3) (i := 5) E dX7_figure_3 (by decide) rfl ?_
  refine nz_weak (lv' := [(2, .int _), (3, .long _), (5, .int _)]) ⟨rfl, rfl, rfl, trivial⟩ ?_
  refine w_X7_figure_5 _ E hR _ _ _ _ _ hf (fun u5 u6 x4 hf => ?_)
  refine nz_lload_n (pc := 23) (i := 3) E dX7_figure_23 rfl rfl ?_
  refine nz_ldc2 (pc := 24) E (List.mem_cons_of_mem _ nz_w545) dX7_figure_24 ?_
  refine nz_lrem (pc := 27) E dX7_figure_27 (by decide) ?_
  refine nz_l2i (pc := 28) E dX7_figure_28 ?_
  exact nz_iret (pc := 29) E hR rfl hf dX7_figure_29
def f_X7_areChoices_18 (c0 : Int32) (c1 : Int32) : Nat → Int32 → nz_S → (Int32 → nz_S → Option (Int32 × nz_S)) → Option (Int32 × nz_S)
  | 0, _, _, _ => none
  | fu + 1, w2, x, K =>
  if c0 ≤ w2 then
    K w2 x
  else
    nz_bnd (f_X7_figure  (c1).toInt64 w2 x) fun r7 x8 =>
    if r7 ≤ (2 : Int32) then
      let v11 : Int32 := w2 + 1
      f_X7_areChoices_18 c0 c1 fu v11 x8 K
    else
      some ((0 : Int32), x8)
def f_X7_areChoices (a0 : Int32) (a1 : Int32) (x : nz_S) : Option (Int32 × nz_S) :=
  if a1 < (0 : Int32) then
    some ((0 : Int32), x)
  else
    nz_bnd (f_X7_tens  a0 x) fun r2 x3 =>
    if (lg_cmp (a1).toInt64 r2) < (0 : Int32) then
      f_X7_areChoices_18 a0 a1 nz_F (0 : Int32) x3 fun u13 x12 =>
        some ((1 : Int32), x12)
    else
      some ((0 : Int32), x3)
theorem ds_X7_areChoices : nz_dsc yX7_areChoices 2 := by unfold nz_dsc; decide +kernel
set_option maxHeartbeats 4000000 in
set_option maxRecDepth 20000 in
theorem w_X7_areChoices_18 {κ : nz_C} {q : Nat → Nat} {o : Int32 × nz_S} (c0 : Int32) (c1 : Int32) (E : nz_Env κ q nz_tK 3 cX7_areChoices RX7 (nz_T yX7_areChoices cX7_areChoices 3 (some .boolean)) (nz_R 1 25)) (hR : nz_RI κ q nz_tK .boolean o) : ∀ (fu : Nat) (w2 : Int32) (x : nz_S) (K : Int32 → nz_S → Option (Int32 × nz_S)), f_X7_areChoices_18 c0 c1 fu w2 x K = some o → (∀ (w2 : Int32) (x : nz_S), K w2 x = some o → nz_St κ q nz_tK 3 41 [(0, .int c0), (1, .int c1), (2, .int w2)] [] x) → nz_St κ q nz_tK 3 18 [(0, .int c0), (1, .int c1), (2, .int w2)] [] x := by
  intro fu
  induction fu with
  | zero => intro w2 x K hf; rw [f_X7_areChoices_18] at hf; cases hf
  | succ fu ih =>
    intro w2 x K hf hK
    rw [f_X7_areChoices_18] at hf
    refine nz_iload_n (pc := 18) (i := 2) E dX7_areChoices_18 rfl rfl ?_
    refine nz_iload_n (pc := 19) (i := 0) E dX7_areChoices_19 rfl rfl ?_
    refine nz_icmp_ge (pc := 20) (tgt := 41) E dX7_areChoices_20 (by decide) (fun h6 => ?_) (fun h6 => ?_)
    · have hf := nz_ite_t hf h6
      refine nz_weak (lv' := [(0, .int _), (1, .int _), (2, .int _)]) ⟨rfl, rfl, rfl, trivial⟩ ?_
      exact hK _ _ hf
    · have hf := nz_ite_f hf h6
      refine nz_iload_n (pc := 23) (i := 1) E dX7_areChoices_23 rfl rfl ?_
      refine nz_i2l (pc := 24) E dX7_areChoices_24 ?_
      refine nz_iload_n (pc := 25) (i := 2) E dX7_areChoices_25 rfl rfl ?_
      obtain ⟨r7, x8, h9, hf⟩ := nz_bnd_t hf
      refine nz_callSI (pc := 26) (As := [.long _, .int _]) E (k_X7_figure   _ _ _ _ h9) (nz_cwS E nz_w546 nz_w547 nz_w58 nz_w548 ds_X7_figure ⟨Nat.le_of_ble_eq_true rfl, Nat.le_of_ble_eq_true rfl⟩ rfl rfl) rfl rfl (Nat.le_of_ble_eq_true rfl) dX7_areChoices_26 ?_
      refine nz_iconst (pc := 29) (v := 2) E dX7_areChoices_29 (by decide) ?_
      refine nz_icmp_le (pc := 30) (tgt := 35) E dX7_areChoices_30 (by decide) (fun h10 => ?_) (fun h10 => ?_)
      · have hf := nz_ite_t hf h10
        refine nz_iinc (pc := 35) (i := 2) (w := 1) E dX7_areChoices_35 rfl (by decide) (by decide) rfl ?_
        refine nz_goto (pc := 38) (tgt := 18) E dX7_areChoices_38 (by decide) ?_
        refine nz_weak (lv' := [(0, .int _), (1, .int _), (2, .int _)]) ⟨rfl, rfl, rfl, trivial⟩ ?_
        exact ih _ _ _ hf hK
      · have hf := nz_ite_f hf h10
        refine nz_iconst (pc := 33) (v := 0) E dX7_areChoices_33 (by decide) ?_
        exact nz_iret (pc := 34) E hR rfl hf dX7_areChoices_34
set_option maxHeartbeats 4000000 in
set_option maxRecDepth 20000 in
theorem k_X7_areChoices {l : Launch} {w : nz_O} {q : Nat → Nat} (a0 : Int32) (a1 : Int32) (x : nz_S) (o : Int32 × nz_S) (hf : f_X7_areChoices a0 a1 x = some o) : nz_MI l yX7_areChoices (nz_T yX7_areChoices cX7_areChoices 3 (some .boolean)) (nz_R 1 25) w q nz_tK [.int a0, .int a1] x o := by
  refine nz_enterI (by decide) rfl (Nat.le_of_ble_eq_true rfl) rfl rfl ?_
  intro κ E hw hlq hR
  subst hw; subst hlq
  unfold f_X7_areChoices at hf
  refine nz_weak (lv' := [(0, .int a0), (1, .int a1)]) ⟨rfl, rfl, trivial⟩ ?_
  refine nz_iload_n (pc := 0) (i := 1) E dX7_areChoices_0 rfl rfl ?_
  refine nz_if_lt (pc := 1) (tgt := 14) E dX7_areChoices_1 (by decide) (fun h1 => ?_) (fun h1 => ?_)
  · have hf := nz_ite_t hf h1
    refine nz_iconst (pc := 14) (v := 0) E dX7_areChoices_14 (by decide) ?_
    exact nz_iret (pc := 15) E hR rfl hf dX7_areChoices_15
  · have hf := nz_ite_f hf h1
    refine nz_iload_n (pc := 4) (i := 1) E dX7_areChoices_4 rfl rfl ?_
    refine nz_i2l (pc := 5) E dX7_areChoices_5 ?_
    refine nz_iload_n (pc := 6) (i := 0) E dX7_areChoices_6 rfl rfl ?_
    obtain ⟨r2, x3, h4, hf⟩ := nz_bnd_t hf
    refine nz_callSL (pc := 7) (As := [.int _]) E (k_X7_tens   _ _ _ h4) (nz_cwS E nz_w542 nz_w543 nz_w58 nz_w544 ds_X7_tens ⟨Nat.le_of_ble_eq_true rfl, Nat.le_of_ble_eq_true rfl⟩ rfl rfl) rfl rfl (Nat.le_of_ble_eq_true rfl) dX7_areChoices_7 ?_
    refine nz_lcmp (pc := 10) E dX7_areChoices_10 ?_
    refine nz_if_lt (pc := 11) (tgt := 16) E dX7_areChoices_11 (by decide) (fun h5 => ?_) (fun h5 => ?_)
    · have hf := nz_ite_t hf h5
      refine nz_iconst (pc := 16) (v := 0) E dX7_areChoices_16 (by decide) ?_
      refine nz_istore_n (pc := 17) (i := 2) E dX7_areChoices_17 rfl (by decide) rfl ?_
      refine nz_weak (lv' := [(0, .int _), (1, .int _), (2, .int _)]) ⟨rfl, rfl, rfl, trivial⟩ ?_
      refine w_X7_areChoices_18 _ _ E hR _ _ _ _ hf (fun u13 x12 hf => ?_)
      refine nz_iconst (pc := 41) (v := 1) E dX7_areChoices_41 (by decide) ?_
      exact nz_iret (pc := 42) E hR rfl hf dX7_areChoices_42
    · have hf := nz_ite_f hf h5
      refine nz_iconst (pc := 14) (v := 0) E dX7_areChoices_14 (by decide) ?_
      exact nz_iret (pc := 15) E hR rfl hf dX7_areChoices_15
def f_X0_follow (g : Nat) (a0 : Int32) (a1 : Int32) (x : nz_S) : Option (Int32 × nz_S) :=
  nz_chk (nz_in a0 12) <|
  let v2 : Int32 := (x.1 (g + 2) (a0).toNatClampNeg)
  if v2 = (0 : Int32) then
    some (a0, x)
  else
    nz_chk (v2 != 0) <|
    nz_bnd (f_X0_target g a0 (a1 - a1 / v2 * v2) x) fun r5 x6 =>
    some (r5, x6)
theorem ds_X0_follow : nz_dsc yX0_follow 2 := by unfold nz_dsc; decide +kernel
set_option maxHeartbeats 4000000 in
set_option maxRecDepth 20000 in
theorem k_X0_follow {l : Launch} {w : nz_O} {q : Nat → Nat} (g : Nat) (hg : nz_isG g) (a0 : Int32) (a1 : Int32) (x : nz_S) (o : Int32 × nz_S) (hf : f_X0_follow g a0 a1 x = some o) : nz_MI l yX0_follow (nz_T yX0_follow cX0_follow 4 (some .int)) (nz_R 1 22) w q nz_tK [.ref (q g), .int a0, .int a1] x o := by
  refine nz_enterI (by decide) rfl (Nat.le_of_ble_eq_true rfl) rfl rfl ?_
  intro κ E hw hlq hR
  subst hw; subst hlq
  unfold f_X0_follow at hf
  refine nz_weak (lv' := [(0, .ref (q g)), (1, .int a0), (2, .int a1)]) ⟨rfl, rfl, rfl, trivial⟩ ?_
  refine nz_aload_n (pc := 0) (i := 0) E dX0_follow_0 rfl rfl ?_
  refine nz_getR (pc := 1) (c := g) (kf := 1) E hg.1 rfl (nz_upT nz_uX0) (by decide) (List.mem_cons_of_mem _ nz_w103) rfl rfl dX0_follow_1 ?_
  refine nz_iload_n (pc := 4) (i := 1) E dX0_follow_4 rfl rfl ?_
  obtain ⟨h1, hf⟩ := nz_chk_t hf
  refine nz_iald (pc := 5) (c := (g + 2)) E hg.2.2.1 h1 dX0_follow_5 ?_
  refine nz_istore_n (pc := 6) (i := 3) E dX0_follow_6 rfl (by decide) rfl ?_
  refine nz_iload_n (pc := 7) (i := 3) E dX0_follow_7 rfl rfl ?_
  refine nz_if_ne (pc := 8) (tgt := 15) E dX0_follow_8 (by decide) (fun h3 => ?_) (fun h3 => ?_)
  · have hf := nz_ite_f hf h3
    refine nz_aload_n (pc := 15) (i := 0) E dX0_follow_15 rfl rfl ?_
    refine nz_iload_n (pc := 16) (i := 1) E dX0_follow_16 rfl rfl ?_
    refine nz_iload_n (pc := 17) (i := 2) E dX0_follow_17 rfl rfl ?_
    refine nz_iload_n (pc := 18) (i := 3) E dX0_follow_18 rfl rfl ?_
    obtain ⟨h4, hf⟩ := nz_chk_t hf
    refine nz_irem (pc := 19) E dX0_follow_19 h4 ?_
    obtain ⟨r5, x6, h7, hf⟩ := nz_bnd_t hf
    refine nz_callVI (pc := 20) (c0 := g) (As := [.int _, .int _]) E hg.1 rfl (k_X0_target g hg _ _ _ _ h7) (nz_cwV E nz_w473 nz_w358 nz_w359 nz_w60 nz_w360 ds_X0_target ⟨Nat.le_of_ble_eq_true rfl, Nat.le_of_ble_eq_true rfl⟩ rfl rfl) rfl rfl (Nat.le_of_ble_eq_true rfl) dX0_follow_20 ?_
    exact nz_iret (pc := 23) E hR rfl hf dX0_follow_23
  · have hf := nz_ite_t hf h3
    refine nz_iload_n (pc := 11) (i := 1) E dX0_follow_11 rfl rfl ?_
    refine nz_goto (pc := 12) (tgt := 23) E dX0_follow_12 (by decide) ?_
    exact nz_iret (pc := 23) E hR rfl hf dX0_follow_23
def f_X7_run_51 (c2 : Int32) (c3 : Int32) : Nat → Int32 → Int32 → nz_S → (Int32 → Int32 → nz_S → Option (Int32 × nz_S)) → Option (Int32 × nz_S)
  | 0, _, _, _, _ => none
  | fu + 1, w4, w5, x, K =>
  if w5 < (0 : Int32) then
    K w4 w5 x
  else
    nz_bnd (f_X7_figure  (c2).toInt64 w5 x) fun r12 x13 =>
    nz_bnd (f_X0_follow 3 w4 r12 x13) fun r15 x16 =>
    let v18 : Int32 := w5 + (-1)
    f_X7_run_51 c2 c3 fu r15 v18 x16 K
def f_X7_run (a0 : Int32) (a1 : Int32) (a2 : Int32) (x : nz_S) : Option (Int32 × nz_S) :=
  if (x.1 3 3) = (0 : Int32) then
    some ((-3 : Int32), x)
  else
    if a0 < (0 : Int32) then
      some ((-2 : Int32), x)
    else
      if (8 : Int32) < a0 then
        some ((-2 : Int32), x)
      else
        nz_bnd (f_X7_areChoices  a0 a1 x) fun r4 x5 =>
        if r4 = (0 : Int32) then
          some ((-2 : Int32), x5)
        else
          if a2 < (0 : Int32) then
            some ((-2 : Int32), x5)
          else
            if a2 ≤ (1 : Int32) then
              let v10 : Int32 := (a0 - (1 : Int32))
              f_X7_run_51 a1 a2 nz_F (0 : Int32) v10 x5 fun u20 u21 x19 =>
                if a2 = (0 : Int32) then
                  some (u20, x19)
                else
                  nz_chk (nz_in u20 12) <|
                  some ((x19.1 4 (u20).toNatClampNeg), x19)
            else
              some ((-2 : Int32), x5)
theorem ds_X7_run : nz_dsc yX7_run 3 := by unfold nz_dsc; decide +kernel
set_option maxHeartbeats 4000000 in
set_option maxRecDepth 20000 in
theorem w_X7_run_51 {κ : nz_C} {q : Nat → Nat} {o : Int32 × nz_S} (c2 : Int32) (c3 : Int32) (E : nz_Env κ q nz_tK 6 cX7_run RX7 (nz_T yX7_run cX7_run 6 (some .int)) (nz_R 2 47)) (hR : nz_RI κ q nz_tK .int o) : ∀ (fu : Nat) (w4 : Int32) (w5 : Int32) (x : nz_S) (K : Int32 → Int32 → nz_S → Option (Int32 × nz_S)), f_X7_run_51 c2 c3 fu w4 w5 x K = some o → (∀ (w4 : Int32) (w5 : Int32) (x : nz_S), K w4 w5 x = some o → nz_St κ q nz_tK 6 80 [(0, .ref (q 0)), (2, .int c2), (3, .int c3), (4, .int w4), (5, .int w5)] [] x) → nz_St κ q nz_tK 6 51 [(0, .ref (q 0)), (2, .int c2), (3, .int c3), (4, .int w4), (5, .int w5)] [] x := by
  intro fu
  induction fu with
  | zero => intro w4 w5 x K hf; rw [f_X7_run_51] at hf; cases hf
  | succ fu ih =>
    intro w4 w5 x K hf hK
    rw [f_X7_run_51] at hf
    refine nz_iload (pc := 51) (i := 5) E dX7_run_51 rfl ?_
    refine nz_if_lt (pc := 53) (tgt := 80) E dX7_run_53 (by decide) (fun h11 => ?_) (fun h11 => ?_)
    · have hf := nz_ite_t hf h11
      refine nz_weak (lv' := [(0, .ref (q 0)), (2, .int _), (3, .int _), (4, .int _), (5, .int _)]) ⟨rfl, rfl, rfl, rfl, rfl, trivial⟩ ?_
      exact hK _ _ _ hf
    · have hf := nz_ite_f hf h11
      refine nz_aload_n (pc := 56) (i := 0) E dX7_run_56 rfl rfl ?_
      refine nz_getR (pc := 57) (c := 0) (kf := 1) E rfl rfl (nz_upT nz_uX7) (by decide) (List.mem_cons_of_mem _ nz_w249) rfl rfl dX7_run_57 ?_
      refine nz_iload (pc := 60) (i := 4) E dX7_run_60 rfl ?_
      refine nz_iload_n (pc := 62) (i := 2) E dX7_run_62 rfl rfl ?_
      refine nz_i2l (pc := 63) E dX7_run_63 ?_
      refine nz_iload (pc := 64) (i := 5) E dX7_run_64 rfl ?_
      obtain ⟨r12, x13, h14, hf⟩ := nz_bnd_t hf
      refine nz_callSI (pc := 66) (As := [.long _, .int _]) E (k_X7_figure   _ _ _ _ h14) (nz_cwS E nz_w546 nz_w547 nz_w58 nz_w548 ds_X7_figure ⟨Nat.le_of_ble_eq_true rfl, Nat.le_of_ble_eq_true rfl⟩ rfl rfl) rfl rfl (Nat.le_of_ble_eq_true rfl) dX7_run_66 ?_
      obtain ⟨r15, x16, h17, hf⟩ := nz_bnd_t hf
      refine nz_callVI (pc := 69) (c0 := 3) (As := [.int _, .int _]) E rfl rfl (k_X0_follow 3 nz_g3 _ _ _ _ h17) (nz_cwV E nz_w549 nz_w550 nz_w551 nz_w60 nz_w552 ds_X0_follow ⟨Nat.le_of_ble_eq_true rfl, Nat.le_of_ble_eq_true rfl⟩ rfl rfl) rfl rfl (Nat.le_of_ble_eq_true rfl) dX7_run_69 ?_
      refine nz_istore (pc := 72) (i := 4) E dX7_run_72 (by decide) rfl ?_
      refine nz_iinc (pc := 74) (i := 5) (w := -1) E dX7_run_74 rfl (by decide) (by decide) rfl ?_
      refine nz_goto (pc := 77) (tgt := 51) E dX7_run_77 (by decide) ?_
      refine nz_weak (lv' := [(0, .ref (q 0)), (2, .int _), (3, .int _), (4, .int _), (5, .int _)]) ⟨rfl, rfl, rfl, rfl, rfl, trivial⟩ ?_
      exact ih _ _ _ _ hf hK
set_option maxHeartbeats 4000000 in
set_option maxRecDepth 20000 in
theorem k_X7_run {l : Launch} {w : nz_O} {q : Nat → Nat} (a0 : Int32) (a1 : Int32) (a2 : Int32) (x : nz_S) (o : Int32 × nz_S) (hf : f_X7_run a0 a1 a2 x = some o) : nz_MI l yX7_run (nz_T yX7_run cX7_run 6 (some .int)) (nz_R 2 47) w q nz_tK [.ref (q 0), .int a0, .int a1, .int a2] x o := by
  refine nz_enterI (by decide) rfl (Nat.le_of_ble_eq_true rfl) rfl rfl ?_
  intro κ E hw hlq hR
  subst hw; subst hlq
  unfold f_X7_run at hf
  refine nz_weak (lv' := [(0, .ref (q 0)), (1, .int a0), (2, .int a1), (3, .int a2)]) ⟨rfl, rfl, rfl, rfl, trivial⟩ ?_
  refine nz_aload_n (pc := 0) (i := 0) E dX7_run_0 rfl rfl ?_
  refine nz_getR (pc := 1) (c := 0) (kf := 1) E rfl rfl (nz_upT nz_uX7) (by decide) (List.mem_cons_of_mem _ nz_w249) rfl rfl dX7_run_1 ?_
  refine nz_getNI (pc := 4) (c := 3) (kf := 3) E rfl rfl (nz_upT nz_uX0) (by decide) nz_n113 rfl rfl dX7_run_4 ?_
  refine nz_if_ne (pc := 7) (tgt := 13) E dX7_run_7 (by decide) (fun h1 => ?_) (fun h1 => ?_)
  · have hf := nz_ite_f hf h1
    refine nz_iload_n (pc := 13) (i := 1) E dX7_run_13 rfl rfl ?_
    refine nz_if_lt (pc := 14) (tgt := 40) E dX7_run_14 (by decide) (fun h2 => ?_) (fun h2 => ?_)
    · have hf := nz_ite_t hf h2
      refine nz_bipush (pc := 40) (v := -2) E dX7_run_40 (by decide) ?_
      exact nz_iret (pc := 42) E hR rfl hf dX7_run_42
    · have hf := nz_ite_f hf h2
      refine nz_iload_n (pc := 17) (i := 1) E dX7_run_17 rfl rfl ?_
      refine nz_bipush (pc := 18) (v := 8) E dX7_run_18 (by decide) ?_
      refine nz_icmp_gt (pc := 20) (tgt := 40) E dX7_run_20 (by decide) (fun h3 => ?_) (fun h3 => ?_)
      · have hf := nz_ite_t hf h3
        refine nz_bipush (pc := 40) (v := -2) E dX7_run_40 (by decide) ?_
        exact nz_iret (pc := 42) E hR rfl hf dX7_run_42
      · have hf := nz_ite_f hf h3
        refine nz_iload_n (pc := 23) (i := 1) E dX7_run_23 rfl rfl ?_
        refine nz_iload_n (pc := 24) (i := 2) E dX7_run_24 rfl rfl ?_
        obtain ⟨r4, x5, h6, hf⟩ := nz_bnd_t hf
        refine nz_callSI (pc := 25) (As := [.int _, .int _]) E (k_X7_areChoices   _ _ _ _ h6) (nz_cwS E nz_w539 nz_w540 nz_w58 nz_w541 ds_X7_areChoices ⟨Nat.le_of_ble_eq_true rfl, Nat.le_of_ble_eq_true rfl⟩ rfl rfl) rfl rfl (Nat.le_of_ble_eq_true rfl) dX7_run_25 ?_
        refine nz_if_eq (pc := 28) (tgt := 40) E dX7_run_28 (by decide) (fun h7 => ?_) (fun h7 => ?_)
        · have hf := nz_ite_t hf h7
          refine nz_bipush (pc := 40) (v := -2) E dX7_run_40 (by decide) ?_
          exact nz_iret (pc := 42) E hR rfl hf dX7_run_42
        · have hf := nz_ite_f hf h7
          refine nz_iload_n (pc := 31) (i := 3) E dX7_run_31 rfl rfl ?_
          refine nz_if_lt (pc := 32) (tgt := 40) E dX7_run_32 (by decide) (fun h8 => ?_) (fun h8 => ?_)
          · have hf := nz_ite_t hf h8
            refine nz_bipush (pc := 40) (v := -2) E dX7_run_40 (by decide) ?_
            exact nz_iret (pc := 42) E hR rfl hf dX7_run_42
          · have hf := nz_ite_f hf h8
            refine nz_iload_n (pc := 35) (i := 3) E dX7_run_35 rfl rfl ?_
            refine nz_iconst (pc := 36) (v := 1) E dX7_run_36 (by decide) ?_
            refine nz_icmp_le (pc := 37) (tgt := 43) E dX7_run_37 (by decide) (fun h9 => ?_) (fun h9 => ?_)
            · have hf := nz_ite_t hf h9
              refine nz_iconst (pc := 43) (v := 0) E dX7_run_43 (by decide) ?_
              refine nz_istore (pc := 44) (i := 4) E dX7_run_44 (by decide) rfl ?_
              refine nz_iload_n (pc := 46) (i := 1) E dX7_run_46 rfl rfl ?_
              refine nz_iconst (pc := 47) (v := 1) E dX7_run_47 (by decide) ?_
              refine nz_isub (pc := 48) E dX7_run_48 ?_
              refine nz_istore (pc := 49) (i := 5) E dX7_run_49 (by decide) rfl ?_
              refine nz_weak (lv' := [(0, .ref (q 0)), (2, .int _), (3, .int _), (4, .int _), (5, .int _)]) ⟨rfl, rfl, rfl, rfl, rfl, trivial⟩ ?_
              refine w_X7_run_51 _ _ E hR _ _ _ _ _ hf (fun u20 u21 x19 hf => ?_)
              refine nz_iload_n (pc := 80) (i := 3) E dX7_run_80 rfl rfl ?_
              refine nz_if_ne (pc := 81) (tgt := 89) E dX7_run_81 (by decide) (fun h22 => ?_) (fun h22 => ?_)
              · have hf := nz_ite_f hf h22
                refine nz_aload_n (pc := 89) (i := 0) E dX7_run_89 rfl rfl ?_
                refine nz_getR (pc := 90) (c := 0) (kf := 1) E rfl rfl (nz_upT nz_uX7) (by decide) (List.mem_cons_of_mem _ nz_w249) rfl rfl dX7_run_90 ?_
                refine nz_getNR (pc := 93) (c := 3) (kf := 0) E rfl rfl (nz_upT nz_uX0) (by decide) nz_n102 rfl rfl dX7_run_93 ?_
                refine nz_iload (pc := 96) (i := 4) E dX7_run_96 rfl ?_
                obtain ⟨h23, hf⟩ := nz_chk_t hf
                refine nz_iald (pc := 98) (c := 4) E rfl h23 dX7_run_98 ?_
                exact nz_iret (pc := 99) E hR rfl hf dX7_run_99
              · have hf := nz_ite_t hf h22
                refine nz_iload (pc := 84) (i := 4) E dX7_run_84 rfl ?_
                refine nz_goto (pc := 86) (tgt := 99) E dX7_run_86 (by decide) ?_
                exact nz_iret (pc := 99) E hR rfl hf dX7_run_99
            · have hf := nz_ite_f hf h9
              refine nz_bipush (pc := 40) (v := -2) E dX7_run_40 (by decide) ?_
              exact nz_iret (pc := 42) E hR rfl hf dX7_run_42
  · have hf := nz_ite_t hf h1
    refine nz_bipush (pc := 10) (v := -3) E dX7_run_10 (by decide) ?_
    exact nz_iret (pc := 12) E hR rfl hf dX7_run_12
def f_X7_would (a0 : Int32) (x : nz_S) : Option (Int32 × nz_S) :=
  if a0 < (0 : Int32) then
    some ((-2 : Int32), x)
  else
    if a0 ≤ (2 : Int32) then
      nz_bnd (f_X0_copyFrom 7 3  x) fun r3 x4 =>
      nz_bnd (f_X7_mendTrial   x4) fun r6 x7 =>
      if a0 = (0 : Int32) then
        some (r6, x7)
      else
      if a0 = (1 : Int32) then
        some ((x7.1 7 3), x7)
      else
        nz_bnd (f_X5_lastManyEntered   x7) fun r11 x12 =>
        if r11 = (-9 : Int32) then
          some ((1 : Int32), x12)
        else
          some ((0 : Int32), x12)
    else
      some ((-2 : Int32), x)
theorem ds_X7_would : nz_dsc yX7_would 1 := by unfold nz_dsc; decide +kernel
set_option maxHeartbeats 4000000 in
set_option maxRecDepth 20000 in
theorem k_X7_would {l : Launch} {w : nz_O} {q : Nat → Nat} (a0 : Int32) (x : nz_S) (o : Int32 × nz_S) (hf : f_X7_would a0 x = some o) : nz_MI l yX7_would (nz_T yX7_would cX7_would 3 (some .int)) (nz_R 16 408) w q nz_tK [.ref (q 0), .int a0] x o := by
  refine nz_enterI (by decide) rfl (Nat.le_of_ble_eq_true rfl) rfl rfl ?_
  intro κ E hw hlq hR
  subst hw; subst hlq
  unfold f_X7_would at hf
  refine nz_weak (lv' := [(0, .ref (q 0)), (1, .int a0)]) ⟨rfl, rfl, trivial⟩ ?_
  refine nz_iload_n (pc := 0) (i := 1) E dX7_would_0 rfl rfl ?_
  refine nz_if_lt (pc := 1) (tgt := 9) E dX7_would_1 (by decide) (fun h1 => ?_) (fun h1 => ?_)
  · have hf := nz_ite_t hf h1
    refine nz_bipush (pc := 9) (v := -2) E dX7_would_9 (by decide) ?_
    exact nz_iret (pc := 11) E hR rfl hf dX7_would_11
  · have hf := nz_ite_f hf h1
    refine nz_iload_n (pc := 4) (i := 1) E dX7_would_4 rfl rfl ?_
    refine nz_iconst (pc := 5) (v := 2) E dX7_would_5 (by decide) ?_
    refine nz_icmp_le (pc := 6) (tgt := 12) E dX7_would_6 (by decide) (fun h2 => ?_) (fun h2 => ?_)
    · have hf := nz_ite_t hf h2
      refine nz_aload_n (pc := 12) (i := 0) E dX7_would_12 rfl rfl ?_
      refine nz_getR (pc := 13) (c := 0) (kf := 2) E rfl rfl (nz_upT nz_uX7) (by decide) (List.mem_cons_of_mem _ nz_w250) rfl rfl dX7_would_13 ?_
      refine nz_aload_n (pc := 16) (i := 0) E dX7_would_16 rfl rfl ?_
      refine nz_getR (pc := 17) (c := 0) (kf := 1) E rfl rfl (nz_upT nz_uX7) (by decide) (List.mem_cons_of_mem _ nz_w249) rfl rfl dX7_would_17 ?_
      obtain ⟨r3, x4, h5, hf⟩ := nz_bnd_t hf
      refine nz_callVV (pc := 20) (c0 := 7) (As := [.ref (q 3)]) E rfl rfl (k_X0_copyFrom 7 3 nz_g7 nz_g3 _ _ h5) (nz_cwV E nz_w316 nz_w317 nz_w318 nz_w60 nz_w319 ds_X0_copyFrom ⟨Nat.le_of_ble_eq_true rfl, Nat.le_of_ble_eq_true rfl⟩ rfl rfl) rfl rfl (Nat.le_of_ble_eq_true rfl) dX7_would_20 ?_
      refine nz_aload_n (pc := 23) (i := 0) E dX7_would_23 rfl rfl ?_
      obtain ⟨r6, x7, h8, hf⟩ := nz_bnd_t hf
      refine nz_callVI (pc := 24) (c0 := 0) (As := []) E rfl rfl (k_X7_mendTrial   _ _ h8) (nz_cwV E nz_w503 nz_w505 nz_w11 nz_w58 nz_w506 ds_X7_mendTrial ⟨Nat.le_of_ble_eq_true rfl, Nat.le_of_ble_eq_true rfl⟩ rfl rfl) rfl rfl (Nat.le_of_ble_eq_true rfl) dX7_would_24 ?_
      refine nz_istore_n (pc := 27) (i := 2) E dX7_would_27 rfl (by decide) rfl ?_
      refine nz_iload_n (pc := 28) (i := 1) E dX7_would_28 rfl rfl ?_
      by_cases h9 : a0 = 0
      · have hf := nz_ite_t hf h9
        refine nz_lookup (pc := 29) (off := 27) (tgt := 56) E dX7_would_29 (by decide) (by rw [h9]; rfl) (by decide) ?_
        refine nz_iload_n (pc := 56) (i := 2) E dX7_would_56 rfl rfl ?_
        exact nz_iret (pc := 57) E hR rfl hf dX7_would_57
      · have hf := nz_ite_f hf h9
        by_cases h10 : a0 = 1
        · have hf := nz_ite_t hf h10
          refine nz_lookup (pc := 29) (off := 29) (tgt := 58) E dX7_would_29 (by decide) (by rw [h10]; rfl) (by decide) ?_
          refine nz_aload_n (pc := 58) (i := 0) E dX7_would_58 rfl rfl ?_
          refine nz_getR (pc := 59) (c := 0) (kf := 2) E rfl rfl (nz_upT nz_uX7) (by decide) (List.mem_cons_of_mem _ nz_w250) rfl rfl dX7_would_59 ?_
          refine nz_getNI (pc := 62) (c := 7) (kf := 3) E rfl rfl (nz_upT nz_uX0) (by decide) nz_n113 rfl rfl dX7_would_62 ?_
          exact nz_iret (pc := 65) E hR rfl hf dX7_would_65
        · have hf := nz_ite_f hf h10
          have th9 : (a0).toInt ≠ 0 := fun e => h9 (nz_i32 (by rw [e]; decide))
          have th10 : (a0).toInt ≠ 1 := fun e => h10 (nz_i32 (by rw [e]; decide))
          refine nz_lookup (pc := 29) (off := 37) (tgt := 66) E dX7_would_29 (by decide) (by simp [Op.lookupswitch.offset, th9, Ne.symm th9, th10, Ne.symm th10]) (by decide) ?_
          refine nz_aload_n (pc := 66) (i := 0) E dX7_would_66 rfl rfl ?_
          refine nz_getR (pc := 67) (c := 0) (kf := 3) E rfl rfl (nz_upT nz_uX7) (by decide) (List.mem_cons_of_mem _ nz_w251) rfl rfl dX7_would_67 ?_
          obtain ⟨r11, x12, h13, hf⟩ := nz_bnd_t hf
          refine nz_callVI (pc := 70) (c0 := 11) (As := []) E rfl rfl (k_X5_lastManyEntered   _ _ h13) (nz_cwV E nz_w499 nz_w500 nz_w501 nz_w61 nz_w502 ds_X5_lastManyEntered ⟨Nat.le_of_ble_eq_true rfl, Nat.le_of_ble_eq_true rfl⟩ rfl rfl) rfl rfl (Nat.le_of_ble_eq_true rfl) dX7_would_70 ?_
          refine nz_bipush (pc := 73) (v := -9) E dX7_would_73 (by decide) ?_
          refine nz_icmp_ne (pc := 75) (tgt := 82) E dX7_would_75 (by decide) (fun h14 => ?_) (fun h14 => ?_)
          · have hf := nz_ite_f hf h14
            refine nz_iconst (pc := 82) (v := 0) E dX7_would_82 (by decide) ?_
            exact nz_iret (pc := 83) E hR rfl hf dX7_would_83
          · have hf := nz_ite_t hf h14
            refine nz_iconst (pc := 78) (v := 1) E dX7_would_78 (by decide) ?_
            refine nz_goto (pc := 79) (tgt := 83) E dX7_would_79 (by decide) ?_
            exact nz_iret (pc := 83) E hR rfl hf dX7_would_83
    · have hf := nz_ite_f hf h2
      refine nz_bipush (pc := 9) (v := -2) E dX7_would_9 (by decide) ?_
      exact nz_iret (pc := 11) E hR rfl hf dX7_would_11
def f_X7_isSaidOfBlock (a0 : Int32) (a1 : Int32) (a2 : Int32) (x : nz_S) : Option (Int32 × nz_S) :=
  nz_bnd (f_X0_hasBlock 7 a1 x) fun r1 x2 =>
  if r1 = (0 : Int32) then
    some ((0 : Int32), x2)
  else
    nz_bnd (f_X5_read 7  x2) fun r5 x6 =>
    if a0 = (5 : Int32) then
      nz_chk (nz_in a1 12) <|
      if (x6.1 19 (a1).toNatClampNeg) = a2 then
        some ((1 : Int32), x6)
      else
        some ((0 : Int32), x6)
    else
    if a0 = (6 : Int32) then
      nz_bnd (f_X5_depthOf  a1 x6) fun r12 x13 =>
      if r12 = a2 then
        some ((1 : Int32), x13)
      else
        some ((0 : Int32), x13)
    else
    if a0 = (7 : Int32) then
      nz_bnd (f_X0_hasBlock 7 a2 x6) fun r17 x18 =>
      if r17 = (0 : Int32) then
        some ((0 : Int32), x18)
      else
        nz_chk (nz_in a2 12) <|
        if (x18.1 18 (a2).toNatClampNeg) = a1 then
          some ((1 : Int32), x18)
        else
          some ((0 : Int32), x18)
    else
    if a0 = (8 : Int32) then
      nz_bnd (f_X0_hasBlock 7 a2 x6) fun r24 x25 =>
      if r24 = (0 : Int32) then
        some ((0 : Int32), x25)
      else
        nz_bnd (f_X5_passedBy  a1 x25) fun r28 x29 =>
        if ((r28 >>> (a2 &&& 31)) &&& (1 : Int32)) = (0 : Int32) then
          some ((0 : Int32), x29)
        else
          some ((1 : Int32), x29)
    else
      some ((0 : Int32), x6)
theorem ds_X7_isSaidOfBlock : nz_dsc yX7_isSaidOfBlock 3 := by unfold nz_dsc; decide +kernel
set_option maxHeartbeats 4000000 in
set_option maxRecDepth 20000 in
theorem k_X7_isSaidOfBlock {l : Launch} {w : nz_O} {q : Nat → Nat} (a0 : Int32) (a1 : Int32) (a2 : Int32) (x : nz_S) (o : Int32 × nz_S) (hf : f_X7_isSaidOfBlock a0 a1 a2 x = some o) : nz_MI l yX7_isSaidOfBlock (nz_T yX7_isSaidOfBlock cX7_isSaidOfBlock 4 (some .boolean)) (nz_R 15 386) w q nz_tK [.ref (q 0), .int a0, .int a1, .int a2] x o := by
  refine nz_enterI (by decide) rfl (Nat.le_of_ble_eq_true rfl) rfl rfl ?_
  intro κ E hw hlq hR
  subst hw; subst hlq
  unfold f_X7_isSaidOfBlock at hf
  refine nz_weak (lv' := [(0, .ref (q 0)), (1, .int a0), (2, .int a1), (3, .int a2)]) ⟨rfl, rfl, rfl, rfl, trivial⟩ ?_
  refine nz_aload_n (pc := 0) (i := 0) E dX7_isSaidOfBlock_0 rfl rfl ?_
  refine nz_getR (pc := 1) (c := 0) (kf := 2) E rfl rfl (nz_upT nz_uX7) (by decide) (List.mem_cons_of_mem _ nz_w250) rfl rfl dX7_isSaidOfBlock_1 ?_
  refine nz_iload_n (pc := 4) (i := 2) E dX7_isSaidOfBlock_4 rfl rfl ?_
  obtain ⟨r1, x2, h3, hf⟩ := nz_bnd_t hf
  refine nz_callVI (pc := 5) (c0 := 7) (As := [.int _]) E rfl rfl (k_X0_hasBlock 7 nz_g7 _ _ _ h3) (nz_cwV E nz_w418 nz_w419 nz_w420 nz_w60 nz_w421 ds_X0_hasBlock ⟨Nat.le_of_ble_eq_true rfl, Nat.le_of_ble_eq_true rfl⟩ rfl rfl) rfl rfl (Nat.le_of_ble_eq_true rfl) dX7_isSaidOfBlock_5 ?_
  refine nz_if_ne (pc := 8) (tgt := 13) E dX7_isSaidOfBlock_8 (by decide) (fun h4 => ?_) (fun h4 => ?_)
  · have hf := nz_ite_f hf h4
    refine nz_aload_n (pc := 13) (i := 0) E dX7_isSaidOfBlock_13 rfl rfl ?_
    refine nz_getR (pc := 14) (c := 0) (kf := 3) E rfl rfl (nz_upT nz_uX7) (by decide) (List.mem_cons_of_mem _ nz_w251) rfl rfl dX7_isSaidOfBlock_14 ?_
    refine nz_aload_n (pc := 17) (i := 0) E dX7_isSaidOfBlock_17 rfl rfl ?_
    refine nz_getR (pc := 18) (c := 0) (kf := 2) E rfl rfl (nz_upT nz_uX7) (by decide) (List.mem_cons_of_mem _ nz_w250) rfl rfl dX7_isSaidOfBlock_18 ?_
    obtain ⟨r5, x6, h7, hf⟩ := nz_bnd_t hf
    refine nz_callVV (pc := 21) (c0 := 11) (As := [.ref (q 7)]) E rfl rfl (k_X5_read 7 nz_g7 _ _ h7) (nz_cwV E nz_w343 nz_w344 nz_w345 nz_w61 nz_w346 ds_X5_read ⟨Nat.le_of_ble_eq_true rfl, Nat.le_of_ble_eq_true rfl⟩ rfl rfl) rfl rfl (Nat.le_of_ble_eq_true rfl) dX7_isSaidOfBlock_21 ?_
    refine nz_iload_n (pc := 24) (i := 1) E dX7_isSaidOfBlock_24 rfl rfl ?_
    by_cases h8 : a0 = 5
    · have hf := nz_ite_t hf h8
      refine nz_tabIn (pc := 25) (off := 31) (tgt := 56) E dX7_isSaidOfBlock_25 (by rw [h8]; decide) (by rw [h8]; decide) (by rw [h8]; rfl) (by decide) ?_
      refine nz_aload_n (pc := 56) (i := 0) E dX7_isSaidOfBlock_56 rfl rfl ?_
      refine nz_getR (pc := 57) (c := 0) (kf := 3) E rfl rfl (nz_upT nz_uX7) (by decide) (List.mem_cons_of_mem _ nz_w251) rfl rfl dX7_isSaidOfBlock_57 ?_
      refine nz_getNR (pc := 60) (c := 11) (kf := 7) E rfl rfl (nz_upT nz_uX5) (by decide) nz_n142 rfl rfl dX7_isSaidOfBlock_60 ?_
      refine nz_iload_n (pc := 63) (i := 2) E dX7_isSaidOfBlock_63 rfl rfl ?_
      obtain ⟨h9, hf⟩ := nz_chk_t hf
      refine nz_iald (pc := 64) (c := 19) E rfl h9 dX7_isSaidOfBlock_64 ?_
      refine nz_iload_n (pc := 65) (i := 3) E dX7_isSaidOfBlock_65 rfl rfl ?_
      refine nz_icmp_ne (pc := 66) (tgt := 73) E dX7_isSaidOfBlock_66 (by decide) (fun h10 => ?_) (fun h10 => ?_)
      · have hf := nz_ite_f hf h10
        refine nz_iconst (pc := 73) (v := 0) E dX7_isSaidOfBlock_73 (by decide) ?_
        exact nz_iret (pc := 74) E hR rfl hf dX7_isSaidOfBlock_74
      · have hf := nz_ite_t hf h10
        refine nz_iconst (pc := 69) (v := 1) E dX7_isSaidOfBlock_69 (by decide) ?_
        refine nz_goto (pc := 70) (tgt := 74) E dX7_isSaidOfBlock_70 (by decide) ?_
        exact nz_iret (pc := 74) E hR rfl hf dX7_isSaidOfBlock_74
    · have hf := nz_ite_f hf h8
      by_cases h11 : a0 = 6
      · have hf := nz_ite_t hf h11
        refine nz_tabIn (pc := 25) (off := 50) (tgt := 75) E dX7_isSaidOfBlock_25 (by rw [h11]; decide) (by rw [h11]; decide) (by rw [h11]; rfl) (by decide) ?_
        refine nz_aload_n (pc := 75) (i := 0) E dX7_isSaidOfBlock_75 rfl rfl ?_
        refine nz_getR (pc := 76) (c := 0) (kf := 3) E rfl rfl (nz_upT nz_uX7) (by decide) (List.mem_cons_of_mem _ nz_w251) rfl rfl dX7_isSaidOfBlock_76 ?_
        refine nz_iload_n (pc := 79) (i := 2) E dX7_isSaidOfBlock_79 rfl rfl ?_
        obtain ⟨r12, x13, h14, hf⟩ := nz_bnd_t hf
        refine nz_callVI (pc := 80) (c0 := 11) (As := [.int _]) E rfl rfl (k_X5_depthOf   _ _ _ h14) (nz_cwV E nz_w422 nz_w398 nz_w399 nz_w61 nz_w400 ds_X5_depthOf ⟨Nat.le_of_ble_eq_true rfl, Nat.le_of_ble_eq_true rfl⟩ rfl rfl) rfl rfl (Nat.le_of_ble_eq_true rfl) dX7_isSaidOfBlock_80 ?_
        refine nz_iload_n (pc := 83) (i := 3) E dX7_isSaidOfBlock_83 rfl rfl ?_
        refine nz_icmp_ne (pc := 84) (tgt := 91) E dX7_isSaidOfBlock_84 (by decide) (fun h15 => ?_) (fun h15 => ?_)
        · have hf := nz_ite_f hf h15
          refine nz_iconst (pc := 91) (v := 0) E dX7_isSaidOfBlock_91 (by decide) ?_
          exact nz_iret (pc := 92) E hR rfl hf dX7_isSaidOfBlock_92
        · have hf := nz_ite_t hf h15
          refine nz_iconst (pc := 87) (v := 1) E dX7_isSaidOfBlock_87 (by decide) ?_
          refine nz_goto (pc := 88) (tgt := 92) E dX7_isSaidOfBlock_88 (by decide) ?_
          exact nz_iret (pc := 92) E hR rfl hf dX7_isSaidOfBlock_92
      · have hf := nz_ite_f hf h11
        by_cases h16 : a0 = 7
        · have hf := nz_ite_t hf h16
          refine nz_tabIn (pc := 25) (off := 68) (tgt := 93) E dX7_isSaidOfBlock_25 (by rw [h16]; decide) (by rw [h16]; decide) (by rw [h16]; rfl) (by decide) ?_
          refine nz_aload_n (pc := 93) (i := 0) E dX7_isSaidOfBlock_93 rfl rfl ?_
          refine nz_getR (pc := 94) (c := 0) (kf := 2) E rfl rfl (nz_upT nz_uX7) (by decide) (List.mem_cons_of_mem _ nz_w250) rfl rfl dX7_isSaidOfBlock_94 ?_
          refine nz_iload_n (pc := 97) (i := 3) E dX7_isSaidOfBlock_97 rfl rfl ?_
          obtain ⟨r17, x18, h19, hf⟩ := nz_bnd_t hf
          refine nz_callVI (pc := 98) (c0 := 7) (As := [.int _]) E rfl rfl (k_X0_hasBlock 7 nz_g7 _ _ _ h19) (nz_cwV E nz_w418 nz_w419 nz_w420 nz_w60 nz_w421 ds_X0_hasBlock ⟨Nat.le_of_ble_eq_true rfl, Nat.le_of_ble_eq_true rfl⟩ rfl rfl) rfl rfl (Nat.le_of_ble_eq_true rfl) dX7_isSaidOfBlock_98 ?_
          refine nz_if_eq (pc := 101) (tgt := 121) E dX7_isSaidOfBlock_101 (by decide) (fun h20 => ?_) (fun h20 => ?_)
          · have hf := nz_ite_t hf h20
            refine nz_iconst (pc := 121) (v := 0) E dX7_isSaidOfBlock_121 (by decide) ?_
            exact nz_iret (pc := 122) E hR rfl hf dX7_isSaidOfBlock_122
          · have hf := nz_ite_f hf h20
            refine nz_aload_n (pc := 104) (i := 0) E dX7_isSaidOfBlock_104 rfl rfl ?_
            refine nz_getR (pc := 105) (c := 0) (kf := 3) E rfl rfl (nz_upT nz_uX7) (by decide) (List.mem_cons_of_mem _ nz_w251) rfl rfl dX7_isSaidOfBlock_105 ?_
            refine nz_getNR (pc := 108) (c := 11) (kf := 6) E rfl rfl (nz_upT nz_uX5) (by decide) nz_n140 rfl rfl dX7_isSaidOfBlock_108 ?_
            refine nz_iload_n (pc := 111) (i := 3) E dX7_isSaidOfBlock_111 rfl rfl ?_
            obtain ⟨h21, hf⟩ := nz_chk_t hf
            refine nz_iald (pc := 112) (c := 18) E rfl h21 dX7_isSaidOfBlock_112 ?_
            refine nz_iload_n (pc := 113) (i := 2) E dX7_isSaidOfBlock_113 rfl rfl ?_
            refine nz_icmp_ne (pc := 114) (tgt := 121) E dX7_isSaidOfBlock_114 (by decide) (fun h22 => ?_) (fun h22 => ?_)
            · have hf := nz_ite_f hf h22
              refine nz_iconst (pc := 121) (v := 0) E dX7_isSaidOfBlock_121 (by decide) ?_
              exact nz_iret (pc := 122) E hR rfl hf dX7_isSaidOfBlock_122
            · have hf := nz_ite_t hf h22
              refine nz_iconst (pc := 117) (v := 1) E dX7_isSaidOfBlock_117 (by decide) ?_
              refine nz_goto (pc := 118) (tgt := 122) E dX7_isSaidOfBlock_118 (by decide) ?_
              exact nz_iret (pc := 122) E hR rfl hf dX7_isSaidOfBlock_122
        · have hf := nz_ite_f hf h16
          by_cases h23 : a0 = 8
          · have hf := nz_ite_t hf h23
            refine nz_tabIn (pc := 25) (off := 98) (tgt := 123) E dX7_isSaidOfBlock_25 (by rw [h23]; decide) (by rw [h23]; decide) (by rw [h23]; rfl) (by decide) ?_
            refine nz_aload_n (pc := 123) (i := 0) E dX7_isSaidOfBlock_123 rfl rfl ?_
            refine nz_getR (pc := 124) (c := 0) (kf := 2) E rfl rfl (nz_upT nz_uX7) (by decide) (List.mem_cons_of_mem _ nz_w250) rfl rfl dX7_isSaidOfBlock_124 ?_
            refine nz_iload_n (pc := 127) (i := 3) E dX7_isSaidOfBlock_127 rfl rfl ?_
            obtain ⟨r24, x25, h26, hf⟩ := nz_bnd_t hf
            refine nz_callVI (pc := 128) (c0 := 7) (As := [.int _]) E rfl rfl (k_X0_hasBlock 7 nz_g7 _ _ _ h26) (nz_cwV E nz_w418 nz_w419 nz_w420 nz_w60 nz_w421 ds_X0_hasBlock ⟨Nat.le_of_ble_eq_true rfl, Nat.le_of_ble_eq_true rfl⟩ rfl rfl) rfl rfl (Nat.le_of_ble_eq_true rfl) dX7_isSaidOfBlock_128 ?_
            refine nz_if_eq (pc := 131) (tgt := 153) E dX7_isSaidOfBlock_131 (by decide) (fun h27 => ?_) (fun h27 => ?_)
            · have hf := nz_ite_t hf h27
              refine nz_iconst (pc := 153) (v := 0) E dX7_isSaidOfBlock_153 (by decide) ?_
              exact nz_iret (pc := 154) E hR rfl hf dX7_isSaidOfBlock_154
            · have hf := nz_ite_f hf h27
              refine nz_aload_n (pc := 134) (i := 0) E dX7_isSaidOfBlock_134 rfl rfl ?_
              refine nz_getR (pc := 135) (c := 0) (kf := 3) E rfl rfl (nz_upT nz_uX7) (by decide) (List.mem_cons_of_mem _ nz_w251) rfl rfl dX7_isSaidOfBlock_135 ?_
              refine nz_iload_n (pc := 138) (i := 2) E dX7_isSaidOfBlock_138 rfl rfl ?_
              obtain ⟨r28, x29, h30, hf⟩ := nz_bnd_t hf
              refine nz_callVI (pc := 139) (c0 := 11) (As := [.int _]) E rfl rfl (k_X5_passedBy   _ _ _ h30) (nz_cwV E nz_w442 nz_w407 nz_w408 nz_w61 nz_w409 ds_X5_passedBy ⟨Nat.le_of_ble_eq_true rfl, Nat.le_of_ble_eq_true rfl⟩ rfl rfl) rfl rfl (Nat.le_of_ble_eq_true rfl) dX7_isSaidOfBlock_139 ?_
              refine nz_iload_n (pc := 142) (i := 3) E dX7_isSaidOfBlock_142 rfl rfl ?_
              refine nz_ishr (pc := 143) E dX7_isSaidOfBlock_143 ?_
              refine nz_iconst (pc := 144) (v := 1) E dX7_isSaidOfBlock_144 (by decide) ?_
              refine nz_iand (pc := 145) E dX7_isSaidOfBlock_145 ?_
              refine nz_if_eq (pc := 146) (tgt := 153) E dX7_isSaidOfBlock_146 (by decide) (fun h31 => ?_) (fun h31 => ?_)
              · have hf := nz_ite_t hf h31
                refine nz_iconst (pc := 153) (v := 0) E dX7_isSaidOfBlock_153 (by decide) ?_
                exact nz_iret (pc := 154) E hR rfl hf dX7_isSaidOfBlock_154
              · have hf := nz_ite_f hf h31
                refine nz_iconst (pc := 149) (v := 1) E dX7_isSaidOfBlock_149 (by decide) ?_
                refine nz_goto (pc := 150) (tgt := 154) E dX7_isSaidOfBlock_150 (by decide) ?_
                exact nz_iret (pc := 154) E hR rfl hf dX7_isSaidOfBlock_154
          · have hf := nz_ite_f hf h23
            have th8 : (a0).toInt ≠ 5 := fun e => h8 (nz_i32 (by rw [e]; decide))
            have th11 : (a0).toInt ≠ 6 := fun e => h11 (nz_i32 (by rw [e]; decide))
            have th16 : (a0).toInt ≠ 7 := fun e => h16 (nz_i32 (by rw [e]; decide))
            have th23 : (a0).toInt ≠ 8 := fun e => h23 (nz_i32 (by rw [e]; decide))
            refine nz_tabOut (pc := 25) (tgt := 155) E dX7_isSaidOfBlock_25 (by omega) (by decide) ?_
            refine nz_iconst (pc := 155) (v := 0) E dX7_isSaidOfBlock_155 (by decide) ?_
            exact nz_iret (pc := 156) E hR rfl hf dX7_isSaidOfBlock_156
  · have hf := nz_ite_t hf h4
    refine nz_iconst (pc := 11) (v := 0) E dX7_isSaidOfBlock_11 (by decide) ?_
    exact nz_iret (pc := 12) E hR rfl hf dX7_isSaidOfBlock_12
def f_X7_holds (a0 : Int32) (a1 : Int32) (a2 : Int32) (x : nz_S) : Option (Int32 × nz_S) :=
  if a0 = (1 : Int32) then
    nz_bnd (f_X0_appendArc 7 a1 a2 x) fun r2 x3 =>
    if r2 < (0 : Int32) then
      some ((0 : Int32), x3)
    else
      some ((1 : Int32), x3)
  else
  if a0 = (2 : Int32) then
    nz_bnd (f_X0_dropArc 7 a1 a2 x) fun r7 x8 =>
    if r7 < (0 : Int32) then
      some ((0 : Int32), x8)
    else
      some ((1 : Int32), x8)
  else
  if a0 = (3 : Int32) then
    nz_bnd (f_X0_copyBlockFor 7 a1 a2 x) fun r12 x13 =>
    if r12 < (0 : Int32) then
      some ((0 : Int32), x13)
    else
      some ((1 : Int32), x13)
  else
  if a0 = (4 : Int32) then
    nz_bnd (f_X5_read 7  x) fun r17 x18 =>
    if a1 = (0 : Int32) then
      if a2 = (0 : Int32) then
        nz_bnd (f_X5_isTame   x18) fun r22 x23 =>
        if r22 = (0 : Int32) then
          some ((0 : Int32), x23)
        else
          some ((1 : Int32), x23)
      else
        some ((0 : Int32), x18)
    else
      some ((0 : Int32), x18)
  else
    nz_bnd (f_X7_isSaidOfBlock  a0 a1 a2 x) fun r26 x27 =>
    nz_chk (nz_bo r26) <|
    some (r26, x27)
theorem ds_X7_holds : nz_dsc yX7_holds 3 := by unfold nz_dsc; decide +kernel
set_option maxHeartbeats 4000000 in
set_option maxRecDepth 20000 in
theorem k_X7_holds {l : Launch} {w : nz_O} {q : Nat → Nat} (a0 : Int32) (a1 : Int32) (a2 : Int32) (x : nz_S) (o : Int32 × nz_S) (hf : f_X7_holds a0 a1 a2 x = some o) : nz_MI l yX7_holds (nz_T yX7_holds cX7_holds 4 (some .boolean)) (nz_R 16 409) w q nz_tK [.ref (q 0), .int a0, .int a1, .int a2] x o := by
  refine nz_enterI (by decide) rfl (Nat.le_of_ble_eq_true rfl) rfl rfl ?_
  intro κ E hw hlq hR
  subst hw; subst hlq
  unfold f_X7_holds at hf
  refine nz_weak (lv' := [(0, .ref (q 0)), (1, .int a0), (2, .int a1), (3, .int a2)]) ⟨rfl, rfl, rfl, rfl, trivial⟩ ?_
  refine nz_iload_n (pc := 0) (i := 1) E dX7_holds_0 rfl rfl ?_
  by_cases h1 : a0 = 1
  · have hf := nz_ite_t hf h1
    refine nz_tabIn (pc := 1) (off := 31) (tgt := 32) E dX7_holds_1 (by rw [h1]; decide) (by rw [h1]; decide) (by rw [h1]; rfl) (by decide) ?_
    refine nz_aload_n (pc := 32) (i := 0) E dX7_holds_32 rfl rfl ?_
    refine nz_getR (pc := 33) (c := 0) (kf := 2) E rfl rfl (nz_upT nz_uX7) (by decide) (List.mem_cons_of_mem _ nz_w250) rfl rfl dX7_holds_33 ?_
    refine nz_iload_n (pc := 36) (i := 2) E dX7_holds_36 rfl rfl ?_
    refine nz_iload_n (pc := 37) (i := 3) E dX7_holds_37 rfl rfl ?_
    obtain ⟨r2, x3, h4, hf⟩ := nz_bnd_t hf
    refine nz_callVI (pc := 38) (c0 := 7) (As := [.int _, .int _]) E rfl rfl (k_X0_appendArc 7 nz_g7 _ _ _ _ h4) (nz_cwV E nz_w447 nz_w448 nz_w449 nz_w60 nz_w450 ds_X0_appendArc ⟨Nat.le_of_ble_eq_true rfl, Nat.le_of_ble_eq_true rfl⟩ rfl rfl) rfl rfl (Nat.le_of_ble_eq_true rfl) dX7_holds_38 ?_
    refine nz_if_lt (pc := 41) (tgt := 48) E dX7_holds_41 (by decide) (fun h5 => ?_) (fun h5 => ?_)
    · have hf := nz_ite_t hf h5
      refine nz_iconst (pc := 48) (v := 0) E dX7_holds_48 (by decide) ?_
      exact nz_iret (pc := 49) E hR rfl hf dX7_holds_49
    · have hf := nz_ite_f hf h5
      refine nz_iconst (pc := 44) (v := 1) E dX7_holds_44 (by decide) ?_
      refine nz_goto (pc := 45) (tgt := 49) E dX7_holds_45 (by decide) ?_
      exact nz_iret (pc := 49) E hR rfl hf dX7_holds_49
  · have hf := nz_ite_f hf h1
    by_cases h6 : a0 = 2
    · have hf := nz_ite_t hf h6
      refine nz_tabIn (pc := 1) (off := 49) (tgt := 50) E dX7_holds_1 (by rw [h6]; decide) (by rw [h6]; decide) (by rw [h6]; rfl) (by decide) ?_
      refine nz_aload_n (pc := 50) (i := 0) E dX7_holds_50 rfl rfl ?_
      refine nz_getR (pc := 51) (c := 0) (kf := 2) E rfl rfl (nz_upT nz_uX7) (by decide) (List.mem_cons_of_mem _ nz_w250) rfl rfl dX7_holds_51 ?_
      refine nz_iload_n (pc := 54) (i := 2) E dX7_holds_54 rfl rfl ?_
      refine nz_iload_n (pc := 55) (i := 3) E dX7_holds_55 rfl rfl ?_
      obtain ⟨r7, x8, h9, hf⟩ := nz_bnd_t hf
      refine nz_callVI (pc := 56) (c0 := 7) (As := [.int _, .int _]) E rfl rfl (k_X0_dropArc 7 nz_g7 _ _ _ _ h9) (nz_cwV E nz_w468 nz_w469 nz_w470 nz_w60 nz_w471 ds_X0_dropArc ⟨Nat.le_of_ble_eq_true rfl, Nat.le_of_ble_eq_true rfl⟩ rfl rfl) rfl rfl (Nat.le_of_ble_eq_true rfl) dX7_holds_56 ?_
      refine nz_if_lt (pc := 59) (tgt := 66) E dX7_holds_59 (by decide) (fun h10 => ?_) (fun h10 => ?_)
      · have hf := nz_ite_t hf h10
        refine nz_iconst (pc := 66) (v := 0) E dX7_holds_66 (by decide) ?_
        exact nz_iret (pc := 67) E hR rfl hf dX7_holds_67
      · have hf := nz_ite_f hf h10
        refine nz_iconst (pc := 62) (v := 1) E dX7_holds_62 (by decide) ?_
        refine nz_goto (pc := 63) (tgt := 67) E dX7_holds_63 (by decide) ?_
        exact nz_iret (pc := 67) E hR rfl hf dX7_holds_67
    · have hf := nz_ite_f hf h6
      by_cases h11 : a0 = 3
      · have hf := nz_ite_t hf h11
        refine nz_tabIn (pc := 1) (off := 67) (tgt := 68) E dX7_holds_1 (by rw [h11]; decide) (by rw [h11]; decide) (by rw [h11]; rfl) (by decide) ?_
        refine nz_aload_n (pc := 68) (i := 0) E dX7_holds_68 rfl rfl ?_
        refine nz_getR (pc := 69) (c := 0) (kf := 2) E rfl rfl (nz_upT nz_uX7) (by decide) (List.mem_cons_of_mem _ nz_w250) rfl rfl dX7_holds_69 ?_
        refine nz_iload_n (pc := 72) (i := 2) E dX7_holds_72 rfl rfl ?_
        refine nz_iload_n (pc := 73) (i := 3) E dX7_holds_73 rfl rfl ?_
        obtain ⟨r12, x13, h14, hf⟩ := nz_bnd_t hf
        refine nz_callVI (pc := 74) (c0 := 7) (As := [.int _, .int _]) E rfl rfl (k_X0_copyBlockFor 7 nz_g7 _ _ _ _ h14) (nz_cwV E nz_w482 nz_w483 nz_w484 nz_w60 nz_w485 ds_X0_copyBlockFor ⟨Nat.le_of_ble_eq_true rfl, Nat.le_of_ble_eq_true rfl⟩ rfl rfl) rfl rfl (Nat.le_of_ble_eq_true rfl) dX7_holds_74 ?_
        refine nz_if_lt (pc := 77) (tgt := 84) E dX7_holds_77 (by decide) (fun h15 => ?_) (fun h15 => ?_)
        · have hf := nz_ite_t hf h15
          refine nz_iconst (pc := 84) (v := 0) E dX7_holds_84 (by decide) ?_
          exact nz_iret (pc := 85) E hR rfl hf dX7_holds_85
        · have hf := nz_ite_f hf h15
          refine nz_iconst (pc := 80) (v := 1) E dX7_holds_80 (by decide) ?_
          refine nz_goto (pc := 81) (tgt := 85) E dX7_holds_81 (by decide) ?_
          exact nz_iret (pc := 85) E hR rfl hf dX7_holds_85
      · have hf := nz_ite_f hf h11
        by_cases h16 : a0 = 4
        · have hf := nz_ite_t hf h16
          refine nz_tabIn (pc := 1) (off := 85) (tgt := 86) E dX7_holds_1 (by rw [h16]; decide) (by rw [h16]; decide) (by rw [h16]; rfl) (by decide) ?_
          refine nz_aload_n (pc := 86) (i := 0) E dX7_holds_86 rfl rfl ?_
          refine nz_getR (pc := 87) (c := 0) (kf := 3) E rfl rfl (nz_upT nz_uX7) (by decide) (List.mem_cons_of_mem _ nz_w251) rfl rfl dX7_holds_87 ?_
          refine nz_aload_n (pc := 90) (i := 0) E dX7_holds_90 rfl rfl ?_
          refine nz_getR (pc := 91) (c := 0) (kf := 2) E rfl rfl (nz_upT nz_uX7) (by decide) (List.mem_cons_of_mem _ nz_w250) rfl rfl dX7_holds_91 ?_
          obtain ⟨r17, x18, h19, hf⟩ := nz_bnd_t hf
          refine nz_callVV (pc := 94) (c0 := 11) (As := [.ref (q 7)]) E rfl rfl (k_X5_read 7 nz_g7 _ _ h19) (nz_cwV E nz_w343 nz_w344 nz_w345 nz_w61 nz_w346 ds_X5_read ⟨Nat.le_of_ble_eq_true rfl, Nat.le_of_ble_eq_true rfl⟩ rfl rfl) rfl rfl (Nat.le_of_ble_eq_true rfl) dX7_holds_94 ?_
          refine nz_iload_n (pc := 97) (i := 2) E dX7_holds_97 rfl rfl ?_
          refine nz_if_ne (pc := 98) (tgt := 119) E dX7_holds_98 (by decide) (fun h20 => ?_) (fun h20 => ?_)
          · have hf := nz_ite_f hf h20
            refine nz_iconst (pc := 119) (v := 0) E dX7_holds_119 (by decide) ?_
            exact nz_iret (pc := 120) E hR rfl hf dX7_holds_120
          · have hf := nz_ite_t hf h20
            refine nz_iload_n (pc := 101) (i := 3) E dX7_holds_101 rfl rfl ?_
            refine nz_if_ne (pc := 102) (tgt := 119) E dX7_holds_102 (by decide) (fun h21 => ?_) (fun h21 => ?_)
            · have hf := nz_ite_f hf h21
              refine nz_iconst (pc := 119) (v := 0) E dX7_holds_119 (by decide) ?_
              exact nz_iret (pc := 120) E hR rfl hf dX7_holds_120
            · have hf := nz_ite_t hf h21
              refine nz_aload_n (pc := 105) (i := 0) E dX7_holds_105 rfl rfl ?_
              refine nz_getR (pc := 106) (c := 0) (kf := 3) E rfl rfl (nz_upT nz_uX7) (by decide) (List.mem_cons_of_mem _ nz_w251) rfl rfl dX7_holds_106 ?_
              obtain ⟨r22, x23, h24, hf⟩ := nz_bnd_t hf
              refine nz_callVI (pc := 109) (c0 := 11) (As := []) E rfl rfl (k_X5_isTame   _ _ h24) (nz_cwV E nz_w402 nz_w403 nz_w404 nz_w61 nz_w405 ds_X5_isTame ⟨Nat.le_of_ble_eq_true rfl, Nat.le_of_ble_eq_true rfl⟩ rfl rfl) rfl rfl (Nat.le_of_ble_eq_true rfl) dX7_holds_109 ?_
              refine nz_if_eq (pc := 112) (tgt := 119) E dX7_holds_112 (by decide) (fun h25 => ?_) (fun h25 => ?_)
              · have hf := nz_ite_t hf h25
                refine nz_iconst (pc := 119) (v := 0) E dX7_holds_119 (by decide) ?_
                exact nz_iret (pc := 120) E hR rfl hf dX7_holds_120
              · have hf := nz_ite_f hf h25
                refine nz_iconst (pc := 115) (v := 1) E dX7_holds_115 (by decide) ?_
                refine nz_goto (pc := 116) (tgt := 120) E dX7_holds_116 (by decide) ?_
                exact nz_iret (pc := 120) E hR rfl hf dX7_holds_120
        · have hf := nz_ite_f hf h16
          have th1 : (a0).toInt ≠ 1 := fun e => h1 (nz_i32 (by rw [e]; decide))
          have th6 : (a0).toInt ≠ 2 := fun e => h6 (nz_i32 (by rw [e]; decide))
          have th11 : (a0).toInt ≠ 3 := fun e => h11 (nz_i32 (by rw [e]; decide))
          have th16 : (a0).toInt ≠ 4 := fun e => h16 (nz_i32 (by rw [e]; decide))
          refine nz_tabOut (pc := 1) (tgt := 121) E dX7_holds_1 (by omega) (by decide) ?_
          refine nz_aload_n (pc := 121) (i := 0) E dX7_holds_121 rfl rfl ?_
          refine nz_iload_n (pc := 122) (i := 1) E dX7_holds_122 rfl rfl ?_
          refine nz_iload_n (pc := 123) (i := 2) E dX7_holds_123 rfl rfl ?_
          refine nz_iload_n (pc := 124) (i := 3) E dX7_holds_124 rfl rfl ?_
          obtain ⟨r26, x27, h28, hf⟩ := nz_bnd_t hf
          refine nz_callVI (pc := 125) (c0 := 0) (As := [.int _, .int _, .int _]) E rfl rfl (k_X7_isSaidOfBlock   _ _ _ _ _ h28) (nz_cwV E nz_w565 nz_w567 nz_w16 nz_w58 nz_w568 ds_X7_isSaidOfBlock ⟨Nat.le_of_ble_eq_true rfl, Nat.le_of_ble_eq_true rfl⟩ rfl rfl) rfl rfl (Nat.le_of_ble_eq_true rfl) dX7_holds_125 ?_
          obtain ⟨h29, hf⟩ := nz_chk_t hf
          exact nz_iret (pc := 128) E hR (nz_narZ h29) hf dX7_holds_128
