def f_X7_judge_44 (c1 : Int32) (c2 : Int64) : Nat → Int32 → nz_S → (Int32 → nz_S → Option (Int32 × nz_S)) → Option (Int32 × nz_S)
  | 0, _, _, _ => none
  | fu + 1, w4, x, K =>
  if c1 ≤ w4 then
    K w4 x
  else
    let v12 : Int32 := ((3 : Int32) * ((c1 - (1 : Int32)) - w4))
    nz_bnd (f_X7_figure  c2 (v12 + (2 : Int32)) x) fun r13 x14 =>
    nz_bnd (f_X7_figure  c2 (v12 + (1 : Int32)) x14) fun r16 x17 =>
    nz_bnd (f_X7_figure  c2 v12 x17) fun r19 x20 =>
    nz_bnd (f_X7_holds  r13 r16 r19 x20) fun r22 x23 =>
    if r22 = (0 : Int32) then
      some (w4, x23)
    else
      let v26 : Int32 := w4 + 1
      f_X7_judge_44 c1 c2 fu v26 x23 K
def f_X7_judge (a0 : Int32) (a1 : Int64) (x : nz_S) : Option (Int32 × nz_S) :=
  if a0 < (1 : Int32) then
    some ((-2 : Int32), x)
  else
    if (4 : Int32) < a0 then
      some ((-2 : Int32), x)
    else
      if (lg_cmp a1 (0 : Int64)) < (0 : Int32) then
        some ((-2 : Int32), x)
      else
        nz_bnd (f_X7_tens  ((3 : Int32) * a0) x) fun r4 x5 =>
        if (lg_cmp a1 r4) < (0 : Int32) then
          nz_bnd (f_X0_copyFrom 7 3  x5) fun r8 x9 =>
          f_X7_judge_44 a0 a1 nz_F (0 : Int32) x9 fun u28 x27 =>
            some ((-9 : Int32), x27)
        else
          some ((-2 : Int32), x5)
theorem ds_X7_judge : nz_dsc yX7_judge 2 := by unfold nz_dsc; decide +kernel
set_option maxHeartbeats 4000000 in
set_option maxRecDepth 20000 in
theorem w_X7_judge_44 {κ : nz_C} {q : Nat → Nat} {o : Int32 × nz_S} (c1 : Int32) (c2 : Int64) (E : nz_Env κ q nz_tK 6 cX7_judge RX7 (nz_T yX7_judge cX7_judge 6 (some .int)) (nz_R 17 432)) (hR : nz_RI κ q nz_tK .int o) : ∀ (fu : Nat) (w4 : Int32) (x : nz_S) (K : Int32 → nz_S → Option (Int32 × nz_S)), f_X7_judge_44 c1 c2 fu w4 x K = some o → (∀ (w4 : Int32) (x : nz_S), K w4 x = some o → nz_St κ q nz_tK 6 98 [(0, .ref (q 0)), (1, .int c1), (2, .long c2), (4, .int w4)] [] x) → nz_St κ q nz_tK 6 44 [(0, .ref (q 0)), (1, .int c1), (2, .long c2), (4, .int w4)] [] x := by
  intro fu
  induction fu with
  | zero => intro w4 x K hf; rw [f_X7_judge_44] at hf; cases hf
  | succ fu ih =>
    intro w4 x K hf hK
    rw [f_X7_judge_44] at hf
    refine nz_iload (pc := 44) (i := 4) E dX7_judge_44 rfl ?_
    refine nz_iload_n (pc := 46) (i := 1) E dX7_judge_46 rfl rfl ?_
    refine nz_icmp_ge (pc := 47) (tgt := 98) E dX7_judge_47 (by decide) (fun h11 => ?_) (fun h11 => ?_)
    · have hf := nz_ite_t hf h11
      refine nz_weak (lv' := [(0, .ref (q 0)), (1, .int _), (2, .long _), (4, .int _)]) ⟨rfl, rfl, rfl, rfl, trivial⟩ ?_
      exact hK _ _ hf
    · have hf := nz_ite_f hf h11
      refine nz_iconst (pc := 50) (v := 3) E dX7_judge_50 (by decide) ?_
      refine nz_iload_n (pc := 51) (i := 1) E dX7_judge_51 rfl rfl ?_
      refine nz_iconst (pc := 52) (v := 1) E dX7_judge_52 (by decide) ?_
      refine nz_isub (pc := 53) E dX7_judge_53 ?_
      refine nz_iload (pc := 54) (i := 4) E dX7_judge_54 rfl ?_
      refine nz_isub (pc := 56) E dX7_judge_56 ?_
      refine nz_imul (pc := 57) E dX7_judge_57 ?_
      refine nz_istore (pc := 58) (i := 5) E dX7_judge_58 (by decide) rfl ?_
      refine nz_aload_n (pc := 60) (i := 0) E dX7_judge_60 rfl rfl ?_
      refine nz_lload_n (pc := 61) (i := 2) E dX7_judge_61 rfl rfl ?_
      refine nz_iload (pc := 62) (i := 5) E dX7_judge_62 rfl ?_
      refine nz_iconst (pc := 64) (v := 2) E dX7_judge_64 (by decide) ?_
      refine nz_iadd (pc := 65) E dX7_judge_65 ?_
      obtain ⟨r13, x14, h15, hf⟩ := nz_bnd_t hf
      refine nz_callSI (pc := 66) (As := [.long _, .int _]) E (k_X7_figure   _ _ _ _ h15) (nz_cwS E nz_w546 nz_w547 nz_w58 nz_w548 ds_X7_figure ⟨Nat.le_of_ble_eq_true rfl, Nat.le_of_ble_eq_true rfl⟩ rfl rfl) rfl rfl (Nat.le_of_ble_eq_true rfl) dX7_judge_66 ?_
      refine nz_lload_n (pc := 69) (i := 2) E dX7_judge_69 rfl rfl ?_
      refine nz_iload (pc := 70) (i := 5) E dX7_judge_70 rfl ?_
      refine nz_iconst (pc := 72) (v := 1) E dX7_judge_72 (by decide) ?_
      refine nz_iadd (pc := 73) E dX7_judge_73 ?_
      obtain ⟨r16, x17, h18, hf⟩ := nz_bnd_t hf
      refine nz_callSI (pc := 74) (As := [.long _, .int _]) E (k_X7_figure   _ _ _ _ h18) (nz_cwS E nz_w546 nz_w547 nz_w58 nz_w548 ds_X7_figure ⟨Nat.le_of_ble_eq_true rfl, Nat.le_of_ble_eq_true rfl⟩ rfl rfl) rfl rfl (Nat.le_of_ble_eq_true rfl) dX7_judge_74 ?_
      refine nz_lload_n (pc := 77) (i := 2) E dX7_judge_77 rfl rfl ?_
      refine nz_iload (pc := 78) (i := 5) E dX7_judge_78 rfl ?_
      obtain ⟨r19, x20, h21, hf⟩ := nz_bnd_t hf
      refine nz_callSI (pc := 80) (As := [.long _, .int _]) E (k_X7_figure   _ _ _ _ h21) (nz_cwS E nz_w546 nz_w547 nz_w58 nz_w548 ds_X7_figure ⟨Nat.le_of_ble_eq_true rfl, Nat.le_of_ble_eq_true rfl⟩ rfl rfl) rfl rfl (Nat.le_of_ble_eq_true rfl) dX7_judge_80 ?_
      obtain ⟨r22, x23, h24, hf⟩ := nz_bnd_t hf
      refine nz_callVI (pc := 83) (c0 := 0) (As := [.int _, .int _, .int _]) E rfl rfl (k_X7_holds   _ _ _ _ _ h24) (nz_cwV E nz_w561 nz_w563 nz_w15 nz_w58 nz_w564 ds_X7_holds ⟨Nat.le_of_ble_eq_true rfl, Nat.le_of_ble_eq_true rfl⟩ rfl rfl) rfl rfl (Nat.le_of_ble_eq_true rfl) dX7_judge_83 ?_
      refine nz_if_ne (pc := 86) (tgt := 92) E dX7_judge_86 (by decide) (fun h25 => ?_) (fun h25 => ?_)
      · have hf := nz_ite_f hf h25
        refine nz_iinc (pc := 92) (i := 4) (w := 1) E dX7_judge_92 rfl (by decide) (by decide) rfl ?_
        refine nz_goto (pc := 95) (tgt := 44) E dX7_judge_95 (by decide) ?_
        refine nz_weak (lv' := [(0, .ref (q 0)), (1, .int _), (2, .long _), (4, .int _)]) ⟨rfl, rfl, rfl, rfl, trivial⟩ ?_
        exact ih _ _ _ hf hK
      · have hf := nz_ite_t hf h25
        refine nz_iload (pc := 89) (i := 4) E dX7_judge_89 rfl ?_
        exact nz_iret (pc := 91) E hR rfl hf dX7_judge_91
set_option maxHeartbeats 4000000 in
set_option maxRecDepth 20000 in
theorem k_X7_judge {l : Launch} {w : nz_O} {q : Nat → Nat} (a0 : Int32) (a1 : Int64) (x : nz_S) (o : Int32 × nz_S) (hf : f_X7_judge a0 a1 x = some o) : nz_MI l yX7_judge (nz_T yX7_judge cX7_judge 6 (some .int)) (nz_R 17 432) w q nz_tK [.ref (q 0), .int a0, .long a1] x o := by
  refine nz_enterI (by decide) rfl (Nat.le_of_ble_eq_true rfl) rfl rfl ?_
  intro κ E hw hlq hR
  subst hw; subst hlq
  unfold f_X7_judge at hf
  refine nz_weak (lv' := [(0, .ref (q 0)), (1, .int a0), (2, .long a1)]) ⟨rfl, rfl, rfl, trivial⟩ ?_
  refine nz_iload_n (pc := 0) (i := 1) E dX7_judge_0 rfl rfl ?_
  refine nz_iconst (pc := 1) (v := 1) E dX7_judge_1 (by decide) ?_
  refine nz_icmp_lt (pc := 2) (tgt := 27) E dX7_judge_2 (by decide) (fun h1 => ?_) (fun h1 => ?_)
  · have hf := nz_ite_t hf h1
    refine nz_bipush (pc := 27) (v := -2) E dX7_judge_27 (by decide) ?_
    exact nz_iret (pc := 29) E hR rfl hf dX7_judge_29
  · have hf := nz_ite_f hf h1
    refine nz_iload_n (pc := 5) (i := 1) E dX7_judge_5 rfl rfl ?_
    refine nz_iconst (pc := 6) (v := 4) E dX7_judge_6 (by decide) ?_
    refine nz_icmp_gt (pc := 7) (tgt := 27) E dX7_judge_7 (by decide) (fun h2 => ?_) (fun h2 => ?_)
    · have hf := nz_ite_t hf h2
      refine nz_bipush (pc := 27) (v := -2) E dX7_judge_27 (by decide) ?_
      exact nz_iret (pc := 29) E hR rfl hf dX7_judge_29
    · have hf := nz_ite_f hf h2
      refine nz_lload_n (pc := 10) (i := 2) E dX7_judge_10 rfl rfl ?_
      refine nz_lconst (pc := 11) (v := 0) E dX7_judge_11 (by decide) ?_
      refine nz_lcmp (pc := 12) E dX7_judge_12 ?_
      refine nz_if_lt (pc := 13) (tgt := 27) E dX7_judge_13 (by decide) (fun h3 => ?_) (fun h3 => ?_)
      · have hf := nz_ite_t hf h3
        refine nz_bipush (pc := 27) (v := -2) E dX7_judge_27 (by decide) ?_
        exact nz_iret (pc := 29) E hR rfl hf dX7_judge_29
      · have hf := nz_ite_f hf h3
        refine nz_lload_n (pc := 16) (i := 2) E dX7_judge_16 rfl rfl ?_
        refine nz_iconst (pc := 17) (v := 3) E dX7_judge_17 (by decide) ?_
        refine nz_iload_n (pc := 18) (i := 1) E dX7_judge_18 rfl rfl ?_
        refine nz_imul (pc := 19) E dX7_judge_19 ?_
        obtain ⟨r4, x5, h6, hf⟩ := nz_bnd_t hf
        refine nz_callSL (pc := 20) (As := [.int _]) E (k_X7_tens   _ _ _ h6) (nz_cwS E nz_w542 nz_w543 nz_w58 nz_w544 ds_X7_tens ⟨Nat.le_of_ble_eq_true rfl, Nat.le_of_ble_eq_true rfl⟩ rfl rfl) rfl rfl (Nat.le_of_ble_eq_true rfl) dX7_judge_20 ?_
        refine nz_lcmp (pc := 23) E dX7_judge_23 ?_
        refine nz_if_lt (pc := 24) (tgt := 30) E dX7_judge_24 (by decide) (fun h7 => ?_) (fun h7 => ?_)
        · have hf := nz_ite_t hf h7
          refine nz_aload_n (pc := 30) (i := 0) E dX7_judge_30 rfl rfl ?_
          refine nz_getR (pc := 31) (c := 0) (kf := 2) E rfl rfl (nz_upT nz_uX7) (by decide) (List.mem_cons_of_mem _ nz_w250) rfl rfl dX7_judge_31 ?_
          refine nz_aload_n (pc := 34) (i := 0) E dX7_judge_34 rfl rfl ?_
          refine nz_getR (pc := 35) (c := 0) (kf := 1) E rfl rfl (nz_upT nz_uX7) (by decide) (List.mem_cons_of_mem _ nz_w249) rfl rfl dX7_judge_35 ?_
          obtain ⟨r8, x9, h10, hf⟩ := nz_bnd_t hf
          refine nz_callVV (pc := 38) (c0 := 7) (As := [.ref (q 3)]) E rfl rfl (k_X0_copyFrom 7 3 nz_g7 nz_g3 _ _ h10) (nz_cwV E nz_w316 nz_w317 nz_w318 nz_w60 nz_w319 ds_X0_copyFrom ⟨Nat.le_of_ble_eq_true rfl, Nat.le_of_ble_eq_true rfl⟩ rfl rfl) rfl rfl (Nat.le_of_ble_eq_true rfl) dX7_judge_38 ?_
          refine nz_iconst (pc := 41) (v := 0) E dX7_judge_41 (by decide) ?_
          refine nz_istore (pc := 42) (i := 4) E dX7_judge_42 (by decide) rfl ?_
          refine nz_weak (lv' := [(0, .ref (q 0)), (1, .int _), (2, .long _), (4, .int _)]) ⟨rfl, rfl, rfl, rfl, trivial⟩ ?_
          refine w_X7_judge_44 _ _ E hR _ _ _ _ hf (fun u28 x27 hf => ?_)
          refine nz_bipush (pc := 98) (v := -9) E dX7_judge_98 (by decide) ?_
          exact nz_iret (pc := 100) E hR rfl hf dX7_judge_100
        · have hf := nz_ite_f hf h7
          refine nz_bipush (pc := 27) (v := -2) E dX7_judge_27 (by decide) ?_
          exact nz_iret (pc := 29) E hR rfl hf dX7_judge_29
def f_J6_bitCount_0f7a4 (a0 : Int32) (x : nz_S) : Option (Int32 × nz_S) :=
  let v1 : Int32 := (a0 - (((a0).toUInt32 >>> (((1 : Int32)).toUInt32 &&& Int32.toUInt32 31)).toInt32 &&& (1431655765 : Int32)))
  let v2 : Int32 := ((v1 &&& (858993459 : Int32)) + (((v1).toUInt32 >>> (((2 : Int32)).toUInt32 &&& Int32.toUInt32 31)).toInt32 &&& (858993459 : Int32)))
  let v3 : Int32 := ((v2 + ((v2).toUInt32 >>> (((4 : Int32)).toUInt32 &&& Int32.toUInt32 31)).toInt32) &&& (252645135 : Int32))
  let v4 : Int32 := (v3 + ((v3).toUInt32 >>> (((8 : Int32)).toUInt32 &&& Int32.toUInt32 31)).toInt32)
  let v5 : Int32 := (v4 + ((v4).toUInt32 >>> (((16 : Int32)).toUInt32 &&& Int32.toUInt32 31)).toInt32)
  some ((v5 &&& (63 : Int32)), x)
theorem ds_J6_bitCount_0f7a4 : nz_dsc yJ6_bitCount_0f7a4 1 := by unfold nz_dsc; decide +kernel
set_option maxHeartbeats 4000000 in
set_option maxRecDepth 20000 in
theorem k_J6_bitCount_0f7a4 {l : Launch} {w : nz_O} {q : Nat → Nat} (a0 : Int32) (x : nz_S) (o : Int32 × nz_S) (hf : f_J6_bitCount_0f7a4 a0 x = some o) : nz_MI l yJ6_bitCount_0f7a4 (nz_T yJ6_bitCount_0f7a4 cJ6_bitCount_0f7a4 1 (some .int)) (nz_R 0 0) w q nz_tK [.int a0] x o := by
  refine nz_enterI (by decide) rfl (Nat.le_of_ble_eq_true rfl) rfl rfl ?_
  intro κ E hw hlq hR
  subst hw; subst hlq
  unfold f_J6_bitCount_0f7a4 at hf
  refine nz_weak (lv' := [(0, .int a0)]) ⟨rfl, trivial⟩ ?_
  refine nz_iload_n (pc := 0) (i := 0) E dJ6_bitCount_0f7a4_0 rfl rfl ?_
  refine nz_iload_n (pc := 1) (i := 0) E dJ6_bitCount_0f7a4_1 rfl rfl ?_
  refine nz_iconst (pc := 2) (v := 1) E dJ6_bitCount_0f7a4_2 (by decide) ?_
  refine nz_iushr (pc := 3) E dJ6_bitCount_0f7a4_3 ?_
  refine nz_ldcw (pc := 4) E (List.mem_cons_of_mem _ nz_w576) dJ6_bitCount_0f7a4_4 ?_
  refine nz_iand (pc := 7) E dJ6_bitCount_0f7a4_7 ?_
  refine nz_isub (pc := 8) E dJ6_bitCount_0f7a4_8 ?_
  refine nz_istore_n (pc := 9) (i := 0) E dJ6_bitCount_0f7a4_9 rfl (by decide) rfl ?_
  refine nz_iload_n (pc := 10) (i := 0) E dJ6_bitCount_0f7a4_10 rfl rfl ?_
  refine nz_ldcw (pc := 11) E (List.mem_cons_of_mem _ nz_w577) dJ6_bitCount_0f7a4_11 ?_
  refine nz_iand (pc := 14) E dJ6_bitCount_0f7a4_14 ?_
  refine nz_iload_n (pc := 15) (i := 0) E dJ6_bitCount_0f7a4_15 rfl rfl ?_
  refine nz_iconst (pc := 16) (v := 2) E dJ6_bitCount_0f7a4_16 (by decide) ?_
  refine nz_iushr (pc := 17) E dJ6_bitCount_0f7a4_17 ?_
  refine nz_ldcw (pc := 18) E (List.mem_cons_of_mem _ nz_w577) dJ6_bitCount_0f7a4_18 ?_
  refine nz_iand (pc := 21) E dJ6_bitCount_0f7a4_21 ?_
  refine nz_iadd (pc := 22) E dJ6_bitCount_0f7a4_22 ?_
  refine nz_istore_n (pc := 23) (i := 0) E dJ6_bitCount_0f7a4_23 rfl (by decide) rfl ?_
  refine nz_iload_n (pc := 24) (i := 0) E dJ6_bitCount_0f7a4_24 rfl rfl ?_
  refine nz_iload_n (pc := 25) (i := 0) E dJ6_bitCount_0f7a4_25 rfl rfl ?_
  refine nz_iconst (pc := 26) (v := 4) E dJ6_bitCount_0f7a4_26 (by decide) ?_
  refine nz_iushr (pc := 27) E dJ6_bitCount_0f7a4_27 ?_
  refine nz_iadd (pc := 28) E dJ6_bitCount_0f7a4_28 ?_
  refine nz_ldcw (pc := 29) E (List.mem_cons_of_mem _ nz_w578) dJ6_bitCount_0f7a4_29 ?_
  refine nz_iand (pc := 32) E dJ6_bitCount_0f7a4_32 ?_
  refine nz_istore_n (pc := 33) (i := 0) E dJ6_bitCount_0f7a4_33 rfl (by decide) rfl ?_
  refine nz_iload_n (pc := 34) (i := 0) E dJ6_bitCount_0f7a4_34 rfl rfl ?_
  refine nz_iload_n (pc := 35) (i := 0) E dJ6_bitCount_0f7a4_35 rfl rfl ?_
  refine nz_bipush (pc := 36) (v := 8) E dJ6_bitCount_0f7a4_36 (by decide) ?_
  refine nz_iushr (pc := 38) E dJ6_bitCount_0f7a4_38 ?_
  refine nz_iadd (pc := 39) E dJ6_bitCount_0f7a4_39 ?_
  refine nz_istore_n (pc := 40) (i := 0) E dJ6_bitCount_0f7a4_40 rfl (by decide) rfl ?_
  refine nz_iload_n (pc := 41) (i := 0) E dJ6_bitCount_0f7a4_41 rfl rfl ?_
  refine nz_iload_n (pc := 42) (i := 0) E dJ6_bitCount_0f7a4_42 rfl rfl ?_
  refine nz_bipush (pc := 43) (v := 16) E dJ6_bitCount_0f7a4_43 (by decide) ?_
  refine nz_iushr (pc := 45) E dJ6_bitCount_0f7a4_45 ?_
  refine nz_iadd (pc := 46) E dJ6_bitCount_0f7a4_46 ?_
  refine nz_istore_n (pc := 47) (i := 0) E dJ6_bitCount_0f7a4_47 rfl (by decide) rfl ?_
  refine nz_iload_n (pc := 48) (i := 0) E dJ6_bitCount_0f7a4_48 rfl rfl ?_
  refine nz_bipush (pc := 49) (v := 63) E dJ6_bitCount_0f7a4_49 (by decide) ?_
  refine nz_iand (pc := 51) E dJ6_bitCount_0f7a4_51 ?_
  exact nz_iret (pc := 52) E hR rfl hf dJ6_bitCount_0f7a4_52
def f_X7_factorial_4 (c0 : Int32) : Nat → Int32 → Int32 → nz_S → (Int32 → Int32 → nz_S → Option (Int32 × nz_S)) → Option (Int32 × nz_S)
  | 0, _, _, _, _ => none
  | fu + 1, w1, w2, x, K =>
  if c0 ≤ w2 then
    K w1 w2 x
  else
    let v2 : Int32 := (w1 * (w2 + (1 : Int32)))
    let v3 : Int32 := w2 + 1
    f_X7_factorial_4 c0 fu v2 v3 x K
def f_X7_factorial (a0 : Int32) (x : nz_S) : Option (Int32 × nz_S) :=
  f_X7_factorial_4 a0 nz_F (1 : Int32) (1 : Int32) x fun u5 u6 x4 =>
    some (u5, x4)
theorem ds_X7_factorial : nz_dsc yX7_factorial 1 := by unfold nz_dsc; decide +kernel
set_option maxHeartbeats 4000000 in
set_option maxRecDepth 20000 in
theorem w_X7_factorial_4 {κ : nz_C} {q : Nat → Nat} {o : Int32 × nz_S} (c0 : Int32) (E : nz_Env κ q nz_tK 3 cX7_factorial RX7 (nz_T yX7_factorial cX7_factorial 3 (some .int)) (nz_R 0 0)) (hR : nz_RI κ q nz_tK .int o) : ∀ (fu : Nat) (w1 : Int32) (w2 : Int32) (x : nz_S) (K : Int32 → Int32 → nz_S → Option (Int32 × nz_S)), f_X7_factorial_4 c0 fu w1 w2 x K = some o → (∀ (w1 : Int32) (w2 : Int32) (x : nz_S), K w1 w2 x = some o → nz_St κ q nz_tK 3 21 [(0, .int c0), (1, .int w1), (2, .int w2)] [] x) → nz_St κ q nz_tK 3 4 [(0, .int c0), (1, .int w1), (2, .int w2)] [] x := by
  intro fu
  induction fu with
  | zero => intro w1 w2 x K hf; rw [f_X7_factorial_4] at hf; cases hf
  | succ fu ih =>
    intro w1 w2 x K hf hK
    rw [f_X7_factorial_4] at hf
    refine nz_iload_n (pc := 4) (i := 2) E dX7_factorial_4 rfl rfl ?_
    refine nz_iload_n (pc := 5) (i := 0) E dX7_factorial_5 rfl rfl ?_
    refine nz_icmp_ge (pc := 6) (tgt := 21) E dX7_factorial_6 (by decide) (fun h1 => ?_) (fun h1 => ?_)
    · have hf := nz_ite_t hf h1
      refine nz_weak (lv' := [(0, .int _), (1, .int _), (2, .int _)]) ⟨rfl, rfl, rfl, trivial⟩ ?_
      exact hK _ _ _ hf
    · have hf := nz_ite_f hf h1
      refine nz_iload_n (pc := 9) (i := 1) E dX7_factorial_9 rfl rfl ?_
      refine nz_iload_n (pc := 10) (i := 2) E dX7_factorial_10 rfl rfl ?_
      refine nz_iconst (pc := 11) (v := 1) E dX7_factorial_11 (by decide) ?_
      refine nz_iadd (pc := 12) E dX7_factorial_12 ?_
      refine nz_imul (pc := 13) E dX7_factorial_13 ?_
      refine nz_istore_n (pc := 14) (i := 1) E dX7_factorial_14 rfl (by decide) rfl ?_
      refine nz_iinc (pc := 15) (i := 2) (w := 1) E dX7_factorial_15 rfl (by decide) (by decide) rfl ?_
      refine nz_goto (pc := 18) (tgt := 4) E dX7_factorial_18 (by decide) ?_
      refine nz_weak (lv' := [(0, .int _), (1, .int _), (2, .int _)]) ⟨rfl, rfl, rfl, trivial⟩ ?_
      exact ih _ _ _ _ hf hK
set_option maxHeartbeats 4000000 in
set_option maxRecDepth 20000 in
theorem k_X7_factorial {l : Launch} {w : nz_O} {q : Nat → Nat} (a0 : Int32) (x : nz_S) (o : Int32 × nz_S) (hf : f_X7_factorial a0 x = some o) : nz_MI l yX7_factorial (nz_T yX7_factorial cX7_factorial 3 (some .int)) (nz_R 0 0) w q nz_tK [.int a0] x o := by
  refine nz_enterI (by decide) rfl (Nat.le_of_ble_eq_true rfl) rfl rfl ?_
  intro κ E hw hlq hR
  subst hw; subst hlq
  unfold f_X7_factorial at hf
  refine nz_weak (lv' := [(0, .int a0)]) ⟨rfl, trivial⟩ ?_
  refine nz_iconst (pc := 0) (v := 1) E dX7_factorial_0 (by decide) ?_
  refine nz_istore_n (pc := 1) (i := 1) E dX7_factorial_1 rfl (by decide) rfl ?_
  refine nz_iconst (pc := 2) (v := 1) E dX7_factorial_2 (by decide) ?_
  refine nz_istore_n (pc := 3) (i := 2) E dX7_factorial_3 rfl (by decide) rfl ?_
  refine nz_weak (lv' := [(0, .int _), (1, .int _), (2, .int _)]) ⟨rfl, rfl, rfl, trivial⟩ ?_
  refine w_X7_factorial_4 _ E hR _ _ _ _ _ hf (fun u5 u6 x4 hf => ?_)
  refine nz_iload_n (pc := 21) (i := 1) E dX7_factorial_21 rfl rfl ?_
  exact nz_iret (pc := 22) E hR rfl hf dX7_factorial_22
def f_X7_surveyWithArcs (a0 : Int32) (a1 : Int32) (x : nz_S) : Option (Unit × nz_S) :=
  nz_bnd (f_X0_copyFrom 7 3  x) fun r1 x2 =>
  nz_bnd (f_X0_keepArcs 7 a0 a1 x2) fun r4 x5 =>
  nz_bnd (f_X5_read 7  x5) fun r7 x8 =>
  some ((), x8)
theorem ds_X7_surveyWithArcs : nz_dsc yX7_surveyWithArcs 2 := by unfold nz_dsc; decide +kernel
set_option maxHeartbeats 4000000 in
set_option maxRecDepth 20000 in
theorem k_X7_surveyWithArcs {l : Launch} {w : nz_O} {q : Nat → Nat} (a0 : Int32) (a1 : Int32) (x : nz_S) (o : Unit × nz_S) (hf : f_X7_surveyWithArcs a0 a1 x = some o) : nz_MV l yX7_surveyWithArcs (nz_T yX7_surveyWithArcs cX7_surveyWithArcs 3 (none)) (nz_R 15 386) w q nz_tK [.ref (q 0), .int a0, .int a1] x o := by
  refine nz_enterV (by decide) rfl (Nat.le_of_ble_eq_true rfl) rfl rfl ?_
  intro κ E hw hlq hR
  subst hw; subst hlq
  unfold f_X7_surveyWithArcs at hf
  refine nz_weak (lv' := [(0, .ref (q 0)), (1, .int a0), (2, .int a1)]) ⟨rfl, rfl, rfl, trivial⟩ ?_
  refine nz_aload_n (pc := 0) (i := 0) E dX7_surveyWithArcs_0 rfl rfl ?_
  refine nz_getR (pc := 1) (c := 0) (kf := 2) E rfl rfl (nz_upT nz_uX7) (by decide) (List.mem_cons_of_mem _ nz_w250) rfl rfl dX7_surveyWithArcs_1 ?_
  refine nz_aload_n (pc := 4) (i := 0) E dX7_surveyWithArcs_4 rfl rfl ?_
  refine nz_getR (pc := 5) (c := 0) (kf := 1) E rfl rfl (nz_upT nz_uX7) (by decide) (List.mem_cons_of_mem _ nz_w249) rfl rfl dX7_surveyWithArcs_5 ?_
  obtain ⟨r1, x2, h3, hf⟩ := nz_bnd_t hf
  refine nz_callVV (pc := 8) (c0 := 7) (As := [.ref (q 3)]) E rfl rfl (k_X0_copyFrom 7 3 nz_g7 nz_g3 _ _ h3) (nz_cwV E nz_w316 nz_w317 nz_w318 nz_w60 nz_w319 ds_X0_copyFrom ⟨Nat.le_of_ble_eq_true rfl, Nat.le_of_ble_eq_true rfl⟩ rfl rfl) rfl rfl (Nat.le_of_ble_eq_true rfl) dX7_surveyWithArcs_8 ?_
  refine nz_aload_n (pc := 11) (i := 0) E dX7_surveyWithArcs_11 rfl rfl ?_
  refine nz_getR (pc := 12) (c := 0) (kf := 2) E rfl rfl (nz_upT nz_uX7) (by decide) (List.mem_cons_of_mem _ nz_w250) rfl rfl dX7_surveyWithArcs_12 ?_
  refine nz_iload_n (pc := 15) (i := 1) E dX7_surveyWithArcs_15 rfl rfl ?_
  refine nz_iload_n (pc := 16) (i := 2) E dX7_surveyWithArcs_16 rfl rfl ?_
  obtain ⟨r4, x5, h6, hf⟩ := nz_bnd_t hf
  refine nz_callVV (pc := 17) (c0 := 7) (As := [.int _, .int _]) E rfl rfl (k_X0_keepArcs 7 nz_g7 _ _ _ _ h6) (nz_cwV E nz_w590 nz_w475 nz_w476 nz_w60 nz_w477 ds_X0_keepArcs ⟨Nat.le_of_ble_eq_true rfl, Nat.le_of_ble_eq_true rfl⟩ rfl rfl) rfl rfl (Nat.le_of_ble_eq_true rfl) dX7_surveyWithArcs_17 ?_
  refine nz_aload_n (pc := 20) (i := 0) E dX7_surveyWithArcs_20 rfl rfl ?_
  refine nz_getR (pc := 21) (c := 0) (kf := 3) E rfl rfl (nz_upT nz_uX7) (by decide) (List.mem_cons_of_mem _ nz_w251) rfl rfl dX7_surveyWithArcs_21 ?_
  refine nz_aload_n (pc := 24) (i := 0) E dX7_surveyWithArcs_24 rfl rfl ?_
  refine nz_getR (pc := 25) (c := 0) (kf := 2) E rfl rfl (nz_upT nz_uX7) (by decide) (List.mem_cons_of_mem _ nz_w250) rfl rfl dX7_surveyWithArcs_25 ?_
  obtain ⟨r7, x8, h9, hf⟩ := nz_bnd_t hf
  refine nz_callVV (pc := 28) (c0 := 11) (As := [.ref (q 7)]) E rfl rfl (k_X5_read 7 nz_g7 _ _ h9) (nz_cwV E nz_w343 nz_w344 nz_w345 nz_w61 nz_w346 ds_X5_read ⟨Nat.le_of_ble_eq_true rfl, Nat.le_of_ble_eq_true rfl⟩ rfl rfl) rfl rfl (Nat.le_of_ble_eq_true rfl) dX7_surveyWithArcs_28 ?_
  exact nz_vret (pc := 31) E hR hf dX7_surveyWithArcs_31
def f_X7_loopsWithArcs (a0 : Int32) (a1 : Int32) (x : nz_S) : Option (Int32 × nz_S) :=
  nz_bnd (f_X7_surveyWithArcs  a0 a1 x) fun r1 x2 =>
  nz_bnd (f_X5_countLoops   x2) fun r4 x5 =>
  some (r4, x5)
theorem ds_X7_loopsWithArcs : nz_dsc yX7_loopsWithArcs 2 := by unfold nz_dsc; decide +kernel
set_option maxHeartbeats 4000000 in
set_option maxRecDepth 20000 in
theorem k_X7_loopsWithArcs {l : Launch} {w : nz_O} {q : Nat → Nat} (a0 : Int32) (a1 : Int32) (x : nz_S) (o : Int32 × nz_S) (hf : f_X7_loopsWithArcs a0 a1 x = some o) : nz_MI l yX7_loopsWithArcs (nz_T yX7_loopsWithArcs cX7_loopsWithArcs 3 (some .int)) (nz_R 16 408) w q nz_tK [.ref (q 0), .int a0, .int a1] x o := by
  refine nz_enterI (by decide) rfl (Nat.le_of_ble_eq_true rfl) rfl rfl ?_
  intro κ E hw hlq hR
  subst hw; subst hlq
  unfold f_X7_loopsWithArcs at hf
  refine nz_weak (lv' := [(0, .ref (q 0)), (1, .int a0), (2, .int a1)]) ⟨rfl, rfl, rfl, trivial⟩ ?_
  refine nz_aload_n (pc := 0) (i := 0) E dX7_loopsWithArcs_0 rfl rfl ?_
  refine nz_iload_n (pc := 1) (i := 1) E dX7_loopsWithArcs_1 rfl rfl ?_
  refine nz_iload_n (pc := 2) (i := 2) E dX7_loopsWithArcs_2 rfl rfl ?_
  obtain ⟨r1, x2, h3, hf⟩ := nz_bnd_t hf
  refine nz_callVV (pc := 3) (c0 := 0) (As := [.int _, .int _]) E rfl rfl (k_X7_surveyWithArcs   _ _ _ _ h3) (nz_cwV E nz_w586 nz_w588 nz_w18 nz_w58 nz_w589 ds_X7_surveyWithArcs ⟨Nat.le_of_ble_eq_true rfl, Nat.le_of_ble_eq_true rfl⟩ rfl rfl) rfl rfl (Nat.le_of_ble_eq_true rfl) dX7_loopsWithArcs_3 ?_
  refine nz_aload_n (pc := 6) (i := 0) E dX7_loopsWithArcs_6 rfl rfl ?_
  refine nz_getR (pc := 7) (c := 0) (kf := 3) E rfl rfl (nz_upT nz_uX7) (by decide) (List.mem_cons_of_mem _ nz_w251) rfl rfl dX7_loopsWithArcs_7 ?_
  obtain ⟨r4, x5, h6, hf⟩ := nz_bnd_t hf
  refine nz_callVI (pc := 10) (c0 := 11) (As := []) E rfl rfl (k_X5_countLoops   _ _ h6) (nz_cwV E nz_w385 nz_w386 nz_w387 nz_w61 nz_w388 ds_X5_countLoops ⟨Nat.le_of_ble_eq_true rfl, Nat.le_of_ble_eq_true rfl⟩ rfl rfl) rfl rfl (Nat.le_of_ble_eq_true rfl) dX7_loopsWithArcs_10 ?_
  exact nz_iret (pc := 13) E hR rfl hf dX7_loopsWithArcs_13
def f_X7_greatestDivisor_2 : Nat → Int32 → Int32 → Int32 → nz_S → (Int32 → Int32 → Int32 → nz_S → Option (Int32 × nz_S)) → Option (Int32 × nz_S)
  | 0, _, _, _, _, _ => none
  | fu + 1, w0, w1, w2, x, K =>
  if (64 : Int32) ≤ w2 then
    K w0 w1 w2 x
  else
    if w1 = (0 : Int32) then
      K w0 w1 w2 x
    else
      nz_chk (w1 != 0) <|
      let v4 : Int32 := (w0 - w0 / w1 * w1)
      let v5 : Int32 := w2 + 1
      f_X7_greatestDivisor_2 fu w1 v4 v5 x K
def f_X7_greatestDivisor (a0 : Int32) (a1 : Int32) (x : nz_S) : Option (Int32 × nz_S) :=
  f_X7_greatestDivisor_2 nz_F a0 a1 (0 : Int32) x fun u7 u8 u9 x6 =>
    some (u7, x6)
theorem ds_X7_greatestDivisor : nz_dsc yX7_greatestDivisor 2 := by unfold nz_dsc; decide +kernel
set_option maxHeartbeats 4000000 in
set_option maxRecDepth 20000 in
theorem w_X7_greatestDivisor_2 {κ : nz_C} {q : Nat → Nat} {o : Int32 × nz_S} (E : nz_Env κ q nz_tK 4 cX7_greatestDivisor RX7 (nz_T yX7_greatestDivisor cX7_greatestDivisor 4 (some .int)) (nz_R 0 0)) (hR : nz_RI κ q nz_tK .int o) : ∀ (fu : Nat) (w0 : Int32) (w1 : Int32) (w2 : Int32) (x : nz_S) (K : Int32 → Int32 → Int32 → nz_S → Option (Int32 × nz_S)), f_X7_greatestDivisor_2 fu w0 w1 w2 x K = some o → (∀ (w0 : Int32) (w1 : Int32) (w2 : Int32) (x : nz_S), K w0 w1 w2 x = some o → nz_St κ q nz_tK 4 26 [(0, .int w0), (1, .int w1), (2, .int w2)] [] x) → nz_St κ q nz_tK 4 2 [(0, .int w0), (1, .int w1), (2, .int w2)] [] x := by
  intro fu
  induction fu with
  | zero => intro w0 w1 w2 x K hf; rw [f_X7_greatestDivisor_2] at hf; cases hf
  | succ fu ih =>
    intro w0 w1 w2 x K hf hK
    rw [f_X7_greatestDivisor_2] at hf
    refine nz_iload_n (pc := 2) (i := 2) E dX7_greatestDivisor_2 rfl rfl ?_
    refine nz_bipush (pc := 3) (v := 64) E dX7_greatestDivisor_3 (by decide) ?_
    refine nz_icmp_ge (pc := 5) (tgt := 26) E dX7_greatestDivisor_5 (by decide) (fun h1 => ?_) (fun h1 => ?_)
    · have hf := nz_ite_t hf h1
      refine nz_weak (lv' := [(0, .int _), (1, .int _), (2, .int _)]) ⟨rfl, rfl, rfl, trivial⟩ ?_
      exact hK _ _ _ _ hf
    · have hf := nz_ite_f hf h1
      refine nz_iload_n (pc := 8) (i := 1) E dX7_greatestDivisor_8 rfl rfl ?_
      refine nz_if_eq (pc := 9) (tgt := 26) E dX7_greatestDivisor_9 (by decide) (fun h2 => ?_) (fun h2 => ?_)
      · have hf := nz_ite_t hf h2
        refine nz_weak (lv' := [(0, .int _), (1, .int _), (2, .int _)]) ⟨rfl, rfl, rfl, trivial⟩ ?_
        exact hK _ _ _ _ hf
      · have hf := nz_ite_f hf h2
        refine nz_iload_n (pc := 12) (i := 0) E dX7_greatestDivisor_12 rfl rfl ?_
        refine nz_iload_n (pc := 13) (i := 1) E dX7_greatestDivisor_13 rfl rfl ?_
        obtain ⟨h3, hf⟩ := nz_chk_t hf
        refine nz_irem (pc := 14) E dX7_greatestDivisor_14 h3 ?_
        refine nz_istore_n (pc := 15) (i := 3) E dX7_greatestDivisor_15 rfl (by decide) rfl ?_
        refine nz_iload_n (pc := 16) (i := 1) E dX7_greatestDivisor_16 rfl rfl ?_
        refine nz_istore_n (pc := 17) (i := 0) E dX7_greatestDivisor_17 rfl (by decide) rfl ?_
        refine nz_iload_n (pc := 18) (i := 3) E dX7_greatestDivisor_18 rfl rfl ?_
        refine nz_istore_n (pc := 19) (i := 1) E dX7_greatestDivisor_19 rfl (by decide) rfl ?_
        refine nz_iinc (pc := 20) (i := 2) (w := 1) E dX7_greatestDivisor_20 rfl (by decide) (by decide) rfl ?_
        refine nz_goto (pc := 23) (tgt := 2) E dX7_greatestDivisor_23 (by decide) ?_
        refine nz_weak (lv' := [(0, .int _), (1, .int _), (2, .int _)]) ⟨rfl, rfl, rfl, trivial⟩ ?_
        exact ih _ _ _ _ _ hf hK
set_option maxHeartbeats 4000000 in
set_option maxRecDepth 20000 in
theorem k_X7_greatestDivisor {l : Launch} {w : nz_O} {q : Nat → Nat} (a0 : Int32) (a1 : Int32) (x : nz_S) (o : Int32 × nz_S) (hf : f_X7_greatestDivisor a0 a1 x = some o) : nz_MI l yX7_greatestDivisor (nz_T yX7_greatestDivisor cX7_greatestDivisor 4 (some .int)) (nz_R 0 0) w q nz_tK [.int a0, .int a1] x o := by
  refine nz_enterI (by decide) rfl (Nat.le_of_ble_eq_true rfl) rfl rfl ?_
  intro κ E hw hlq hR
  subst hw; subst hlq
  unfold f_X7_greatestDivisor at hf
  refine nz_weak (lv' := [(0, .int a0), (1, .int a1)]) ⟨rfl, rfl, trivial⟩ ?_
  refine nz_iconst (pc := 0) (v := 0) E dX7_greatestDivisor_0 (by decide) ?_
  refine nz_istore_n (pc := 1) (i := 2) E dX7_greatestDivisor_1 rfl (by decide) rfl ?_
  refine nz_weak (lv' := [(0, .int _), (1, .int _), (2, .int _)]) ⟨rfl, rfl, rfl, trivial⟩ ?_
  refine w_X7_greatestDivisor_2 E hR _ _ _ _ _ _ hf (fun u7 u8 u9 x6 hf => ?_)
  refine nz_iload_n (pc := 26) (i := 0) E dX7_greatestDivisor_26 rfl rfl ?_
  exact nz_iret (pc := 27) E hR rfl hf dX7_greatestDivisor_27
def f_X7_inLeastTerms (a0 : Int32) (a1 : Int32) (a2 : Int32) (x : nz_S) : Option (Int32 × nz_S) :=
  nz_bnd (f_X7_greatestDivisor  (if (0 : Int32) ≤ a0 then a0 else (0 : Int32) - a0) a1 x) fun r1 x2 =>
  if a2 = (0 : Int32) then
    if r1 = (0 : Int32) then
      some (a1, x2)
    else
      nz_chk (r1 != 0) <|
      some ((a1 / r1), x2)
  else
    if r1 = (0 : Int32) then
      some (a0, x2)
    else
      nz_chk (r1 != 0) <|
      some ((a0 / r1), x2)
theorem ds_X7_inLeastTerms : nz_dsc yX7_inLeastTerms 3 := by unfold nz_dsc; decide +kernel
set_option maxHeartbeats 4000000 in
set_option maxRecDepth 20000 in
theorem k_X7_inLeastTerms {l : Launch} {w : nz_O} {q : Nat → Nat} (a0 : Int32) (a1 : Int32) (a2 : Int32) (x : nz_S) (o : Int32 × nz_S) (hf : f_X7_inLeastTerms a0 a1 a2 x = some o) : nz_MI l yX7_inLeastTerms (nz_T yX7_inLeastTerms cX7_inLeastTerms 5 (some .int)) (nz_R 1 30) w q nz_tK [.int a0, .int a1, .int a2] x o := by
  refine nz_enterI (by decide) rfl (Nat.le_of_ble_eq_true rfl) rfl rfl ?_
  intro κ E hw hlq hR
  subst hw; subst hlq
  unfold f_X7_inLeastTerms at hf
  refine nz_weak (lv' := [(0, .int a0), (1, .int a1), (2, .int a2)]) ⟨rfl, rfl, rfl, trivial⟩ ?_
  refine nz_iload_n (pc := 0) (i := 0) E dX7_inLeastTerms_0 rfl rfl ?_
  refine nz_mabs (pc := 1) E nz_w594 nz_w595 nz_w64 nz_w596 (by decide) (by decide) dX7_inLeastTerms_1 ?_
  refine nz_iload_n (pc := 4) (i := 1) E dX7_inLeastTerms_4 rfl rfl ?_
  obtain ⟨r1, x2, h3, hf⟩ := nz_bnd_t hf
  refine nz_callSI (pc := 5) (As := [.int _, .int _]) E (k_X7_greatestDivisor   _ _ _ _ h3) (nz_cwS E nz_w597 nz_w598 nz_w58 nz_w599 ds_X7_greatestDivisor ⟨Nat.le_of_ble_eq_true rfl, Nat.le_of_ble_eq_true rfl⟩ rfl rfl) rfl rfl (Nat.le_of_ble_eq_true rfl) dX7_inLeastTerms_5 ?_
  refine nz_istore_n (pc := 8) (i := 3) E dX7_inLeastTerms_8 rfl (by decide) rfl ?_
  refine nz_iload_n (pc := 9) (i := 2) E dX7_inLeastTerms_9 rfl rfl ?_
  refine nz_if_eq (pc := 10) (tgt := 17) E dX7_inLeastTerms_10 (by decide) (fun h4 => ?_) (fun h4 => ?_)
  · have hf := nz_ite_t hf h4
    refine nz_iload_n (pc := 17) (i := 1) E dX7_inLeastTerms_17 rfl rfl ?_
    refine nz_istore (pc := 18) (i := 4) E dX7_inLeastTerms_18 (by decide) rfl ?_
    refine nz_iload_n (pc := 20) (i := 3) E dX7_inLeastTerms_20 rfl rfl ?_
    refine nz_if_ne (pc := 21) (tgt := 29) E dX7_inLeastTerms_21 (by decide) (fun h5 => ?_) (fun h5 => ?_)
    · have hf := nz_ite_f hf h5
      refine nz_iload (pc := 29) (i := 4) E dX7_inLeastTerms_29 rfl ?_
      refine nz_iload_n (pc := 31) (i := 3) E dX7_inLeastTerms_31 rfl rfl ?_
      obtain ⟨h6, hf⟩ := nz_chk_t hf
      refine nz_idiv (pc := 32) E dX7_inLeastTerms_32 h6 ?_
      exact nz_iret (pc := 33) E hR rfl hf dX7_inLeastTerms_33
    · have hf := nz_ite_t hf h5
      refine nz_iload (pc := 24) (i := 4) E dX7_inLeastTerms_24 rfl ?_
      refine nz_goto (pc := 26) (tgt := 33) E dX7_inLeastTerms_26 (by decide) ?_
      exact nz_iret (pc := 33) E hR rfl hf dX7_inLeastTerms_33
  · have hf := nz_ite_f hf h4
    refine nz_iload_n (pc := 13) (i := 0) E dX7_inLeastTerms_13 rfl rfl ?_
    refine nz_goto (pc := 14) (tgt := 18) E dX7_inLeastTerms_14 (by decide) ?_
    refine nz_istore (pc := 18) (i := 4) E dX7_inLeastTerms_18 (by decide) rfl ?_
    refine nz_iload_n (pc := 20) (i := 3) E dX7_inLeastTerms_20 rfl rfl ?_
    refine nz_if_ne (pc := 21) (tgt := 29) E dX7_inLeastTerms_21 (by decide) (fun h7 => ?_) (fun h7 => ?_)
    · have hf := nz_ite_f hf h7
      refine nz_iload (pc := 29) (i := 4) E dX7_inLeastTerms_29 rfl ?_
      refine nz_iload_n (pc := 31) (i := 3) E dX7_inLeastTerms_31 rfl rfl ?_
      obtain ⟨h8, hf⟩ := nz_chk_t hf
      refine nz_idiv (pc := 32) E dX7_inLeastTerms_32 h8 ?_
      exact nz_iret (pc := 33) E hR rfl hf dX7_inLeastTerms_33
    · have hf := nz_ite_t hf h7
      refine nz_iload (pc := 24) (i := 4) E dX7_inLeastTerms_24 rfl ?_
      refine nz_goto (pc := 26) (tgt := 33) E dX7_inLeastTerms_26 (by decide) ?_
      exact nz_iret (pc := 33) E hR rfl hf dX7_inLeastTerms_33
def f_X7_share_31 (c1 : Int32) (c2 : Int32) (c3 : Int32) (c4 : Int32) : Nat → Int32 → Int32 → nz_S → (Int32 → Int32 → nz_S → Option (Int32 × nz_S)) → Option (Int32 × nz_S)
  | 0, _, _, _, _ => none
  | fu + 1, w5, w6, x, K =>
  if ((1 : Int32) <<< (c4 &&& 31)) ≤ w6 then
    K w5 w6 x
  else
    if ((w6 >>> (c2 &&& 31)) &&& (1 : Int32)) = (0 : Int32) then
      nz_bnd (f_J6_bitCount_0f7a4  w6 x) fun r10 x11 =>
      nz_bnd (f_X7_factorial  r10 x11) fun r13 x14 =>
      nz_bnd (f_X7_factorial  ((c4 - (1 : Int32)) - r10) x14) fun r16 x17 =>
      let v19 : Int32 := (r13 * r16)
      nz_bnd (f_X7_loopsWithArcs  c1 (w6 ||| ((1 : Int32) <<< (c2 &&& 31))) x17) fun r20 x21 =>
      nz_bnd (f_X7_loopsWithArcs  c1 w6 x21) fun r23 x24 =>
      let v26 : Int32 := (w5 + (v19 * (r20 - r23)))
      let v27 : Int32 := w6 + 1
      f_X7_share_31 c1 c2 c3 c4 fu v26 v27 x24 K
    else
      let v9 : Int32 := w6 + 1
      f_X7_share_31 c1 c2 c3 c4 fu w5 v9 x K
def f_X7_share (a0 : Int32) (a1 : Int32) (a2 : Int32) (x : nz_S) : Option (Int32 × nz_S) :=
  nz_bnd (f_X0_hasArc 3 a0 a1 x) fun r1 x2 =>
  if r1 = (0 : Int32) then
    some ((-1 : Int32), x2)
  else
    nz_chk (nz_in a0 12) <|
    let v6 : Int32 := (x2.1 5 (a0).toNatClampNeg)
    f_X7_share_31 a0 a1 a2 v6 nz_F (0 : Int32) (0 : Int32) x2 fun u29 u30 x28 =>
      nz_bnd (f_X7_factorial  v6 x28) fun r31 x32 =>
      nz_bnd (f_X7_inLeastTerms  u29 r31 a2 x32) fun r34 x35 =>
      some (r34, x35)
theorem ds_X7_share : nz_dsc yX7_share 3 := by unfold nz_dsc; decide +kernel
set_option maxHeartbeats 4000000 in
set_option maxRecDepth 20000 in
theorem w_X7_share_31 {κ : nz_C} {q : Nat → Nat} {o : Int32 × nz_S} (c1 : Int32) (c2 : Int32) (c3 : Int32) (c4 : Int32) (E : nz_Env κ q nz_tK 9 cX7_share RX7 (nz_T yX7_share cX7_share 9 (some .int)) (nz_R 17 430)) (hR : nz_RI κ q nz_tK .int o) : ∀ (fu : Nat) (w5 : Int32) (w6 : Int32) (x : nz_S) (K : Int32 → Int32 → nz_S → Option (Int32 × nz_S)), f_X7_share_31 c1 c2 c3 c4 fu w5 w6 x K = some o → (∀ (w5 : Int32) (w6 : Int32) (x : nz_S), K w5 w6 x = some o → nz_St κ q nz_tK 9 107 [(0, .ref (q 0)), (1, .int c1), (2, .int c2), (3, .int c3), (4, .int c4), (5, .int w5), (6, .int w6)] [] x) → nz_St κ q nz_tK 9 31 [(0, .ref (q 0)), (1, .int c1), (2, .int c2), (3, .int c3), (4, .int c4), (5, .int w5), (6, .int w6)] [] x := by
  intro fu
  induction fu with
  | zero => intro w5 w6 x K hf; rw [f_X7_share_31] at hf; cases hf
  | succ fu ih =>
    intro w5 w6 x K hf hK
    rw [f_X7_share_31] at hf
    refine nz_iload (pc := 31) (i := 6) E dX7_share_31 rfl ?_
    refine nz_iconst (pc := 33) (v := 1) E dX7_share_33 (by decide) ?_
    refine nz_iload (pc := 34) (i := 4) E dX7_share_34 rfl ?_
    refine nz_ishl (pc := 36) E dX7_share_36 ?_
    refine nz_icmp_ge (pc := 37) (tgt := 107) E dX7_share_37 (by decide) (fun h7 => ?_) (fun h7 => ?_)
    · have hf := nz_ite_t hf h7
      refine nz_weak (lv' := [(0, .ref (q 0)), (1, .int _), (2, .int _), (3, .int _), (4, .int _), (5, .int _), (6, .int _)]) ⟨rfl, rfl, rfl, rfl, rfl, rfl, rfl, trivial⟩ ?_
      exact hK _ _ _ hf
    · have hf := nz_ite_f hf h7
      refine nz_iload (pc := 40) (i := 6) E dX7_share_40 rfl ?_
      refine nz_iload_n (pc := 42) (i := 2) E dX7_share_42 rfl rfl ?_
      refine nz_ishr (pc := 43) E dX7_share_43 ?_
      refine nz_iconst (pc := 44) (v := 1) E dX7_share_44 (by decide) ?_
      refine nz_iand (pc := 45) E dX7_share_45 ?_
      refine nz_if_ne (pc := 46) (tgt := 101) E dX7_share_46 (by decide) (fun h8 => ?_) (fun h8 => ?_)
      · have hf := nz_ite_f hf h8
        refine nz_iinc (pc := 101) (i := 6) (w := 1) E dX7_share_101 rfl (by decide) (by decide) rfl ?_
        refine nz_goto (pc := 104) (tgt := 31) E dX7_share_104 (by decide) ?_
        refine nz_weak (lv' := [(0, .ref (q 0)), (1, .int _), (2, .int _), (3, .int _), (4, .int _), (5, .int _), (6, .int _)]) ⟨rfl, rfl, rfl, rfl, rfl, rfl, rfl, trivial⟩ ?_
        exact ih _ _ _ _ hf hK
      · have hf := nz_ite_t hf h8
        refine nz_iload (pc := 49) (i := 6) E dX7_share_49 rfl ?_
        obtain ⟨r10, x11, h12, hf⟩ := nz_bnd_t hf
        refine nz_callSI (pc := 51) (As := [.int _]) E (k_J6_bitCount_0f7a4   _ _ _ h12) (nz_cwS E nz_w573 nz_w574 nz_w70 nz_w575 ds_J6_bitCount_0f7a4 ⟨Nat.le_of_ble_eq_true rfl, Nat.le_of_ble_eq_true rfl⟩ rfl rfl) rfl rfl (Nat.le_of_ble_eq_true rfl) dX7_share_51 ?_
        refine nz_istore (pc := 54) (i := 7) E dX7_share_54 (by decide) rfl ?_
        refine nz_iload (pc := 56) (i := 7) E dX7_share_56 rfl ?_
        obtain ⟨r13, x14, h15, hf⟩ := nz_bnd_t hf
        refine nz_callSI (pc := 58) (As := [.int _]) E (k_X7_factorial   _ _ _ h15) (nz_cwS E nz_w579 nz_w580 nz_w58 nz_w581 ds_X7_factorial ⟨Nat.le_of_ble_eq_true rfl, Nat.le_of_ble_eq_true rfl⟩ rfl rfl) rfl rfl (Nat.le_of_ble_eq_true rfl) dX7_share_58 ?_
        refine nz_iload (pc := 61) (i := 4) E dX7_share_61 rfl ?_
        refine nz_iconst (pc := 63) (v := 1) E dX7_share_63 (by decide) ?_
        refine nz_isub (pc := 64) E dX7_share_64 ?_
        refine nz_iload (pc := 65) (i := 7) E dX7_share_65 rfl ?_
        refine nz_isub (pc := 67) E dX7_share_67 ?_
        obtain ⟨r16, x17, h18, hf⟩ := nz_bnd_t hf
        refine nz_callSI (pc := 68) (As := [.int _]) E (k_X7_factorial   _ _ _ h18) (nz_cwS E nz_w579 nz_w580 nz_w58 nz_w581 ds_X7_factorial ⟨Nat.le_of_ble_eq_true rfl, Nat.le_of_ble_eq_true rfl⟩ rfl rfl) rfl rfl (Nat.le_of_ble_eq_true rfl) dX7_share_68 ?_
        refine nz_imul (pc := 71) E dX7_share_71 ?_
        refine nz_istore (pc := 72) (i := 8) E dX7_share_72 (by decide) rfl ?_
        refine nz_iload (pc := 74) (i := 5) E dX7_share_74 rfl ?_
        refine nz_iload (pc := 76) (i := 8) E dX7_share_76 rfl ?_
        refine nz_aload_n (pc := 78) (i := 0) E dX7_share_78 rfl rfl ?_
        refine nz_iload_n (pc := 79) (i := 1) E dX7_share_79 rfl rfl ?_
        refine nz_iload (pc := 80) (i := 6) E dX7_share_80 rfl ?_
        refine nz_iconst (pc := 82) (v := 1) E dX7_share_82 (by decide) ?_
        refine nz_iload_n (pc := 83) (i := 2) E dX7_share_83 rfl rfl ?_
        refine nz_ishl (pc := 84) E dX7_share_84 ?_
        refine nz_ior (pc := 85) E dX7_share_85 ?_
        obtain ⟨r20, x21, h22, hf⟩ := nz_bnd_t hf
        refine nz_callVI (pc := 86) (c0 := 0) (As := [.int _, .int _]) E rfl rfl (k_X7_loopsWithArcs   _ _ _ _ h22) (nz_cwV E nz_w582 nz_w584 nz_w17 nz_w58 nz_w585 ds_X7_loopsWithArcs ⟨Nat.le_of_ble_eq_true rfl, Nat.le_of_ble_eq_true rfl⟩ rfl rfl) rfl rfl (Nat.le_of_ble_eq_true rfl) dX7_share_86 ?_
        refine nz_aload_n (pc := 89) (i := 0) E dX7_share_89 rfl rfl ?_
        refine nz_iload_n (pc := 90) (i := 1) E dX7_share_90 rfl rfl ?_
        refine nz_iload (pc := 91) (i := 6) E dX7_share_91 rfl ?_
        obtain ⟨r23, x24, h25, hf⟩ := nz_bnd_t hf
        refine nz_callVI (pc := 93) (c0 := 0) (As := [.int _, .int _]) E rfl rfl (k_X7_loopsWithArcs   _ _ _ _ h25) (nz_cwV E nz_w582 nz_w584 nz_w17 nz_w58 nz_w585 ds_X7_loopsWithArcs ⟨Nat.le_of_ble_eq_true rfl, Nat.le_of_ble_eq_true rfl⟩ rfl rfl) rfl rfl (Nat.le_of_ble_eq_true rfl) dX7_share_93 ?_
        refine nz_isub (pc := 96) E dX7_share_96 ?_
        refine nz_imul (pc := 97) E dX7_share_97 ?_
        refine nz_iadd (pc := 98) E dX7_share_98 ?_
        refine nz_istore (pc := 99) (i := 5) E dX7_share_99 (by decide) rfl ?_
        refine nz_iinc (pc := 101) (i := 6) (w := 1) E dX7_share_101 rfl (by decide) (by decide) rfl ?_
        refine nz_goto (pc := 104) (tgt := 31) E dX7_share_104 (by decide) ?_
        refine nz_weak (lv' := [(0, .ref (q 0)), (1, .int _), (2, .int _), (3, .int _), (4, .int _), (5, .int _), (6, .int _)]) ⟨rfl, rfl, rfl, rfl, rfl, rfl, rfl, trivial⟩ ?_
        exact ih _ _ _ _ hf hK
set_option maxHeartbeats 4000000 in
set_option maxRecDepth 20000 in
theorem k_X7_share {l : Launch} {w : nz_O} {q : Nat → Nat} (a0 : Int32) (a1 : Int32) (a2 : Int32) (x : nz_S) (o : Int32 × nz_S) (hf : f_X7_share a0 a1 a2 x = some o) : nz_MI l yX7_share (nz_T yX7_share cX7_share 9 (some .int)) (nz_R 17 430) w q nz_tK [.ref (q 0), .int a0, .int a1, .int a2] x o := by
  refine nz_enterI (by decide) rfl (Nat.le_of_ble_eq_true rfl) rfl rfl ?_
  intro κ E hw hlq hR
  subst hw; subst hlq
  unfold f_X7_share at hf
  refine nz_weak (lv' := [(0, .ref (q 0)), (1, .int a0), (2, .int a1), (3, .int a2)]) ⟨rfl, rfl, rfl, rfl, trivial⟩ ?_
  refine nz_aload_n (pc := 0) (i := 0) E dX7_share_0 rfl rfl ?_
  refine nz_getR (pc := 1) (c := 0) (kf := 1) E rfl rfl (nz_upT nz_uX7) (by decide) (List.mem_cons_of_mem _ nz_w249) rfl rfl dX7_share_1 ?_
  refine nz_iload_n (pc := 4) (i := 1) E dX7_share_4 rfl rfl ?_
  refine nz_iload_n (pc := 5) (i := 2) E dX7_share_5 rfl rfl ?_
  obtain ⟨r1, x2, h3, hf⟩ := nz_bnd_t hf
  refine nz_callVI (pc := 6) (c0 := 3) (As := [.int _, .int _]) E rfl rfl (k_X0_hasArc 3 nz_g3 _ _ _ _ h3) (nz_cwV E nz_w427 nz_w428 nz_w429 nz_w60 nz_w430 ds_X0_hasArc ⟨Nat.le_of_ble_eq_true rfl, Nat.le_of_ble_eq_true rfl⟩ rfl rfl) rfl rfl (Nat.le_of_ble_eq_true rfl) dX7_share_6 ?_
  refine nz_if_ne (pc := 9) (tgt := 14) E dX7_share_9 (by decide) (fun h4 => ?_) (fun h4 => ?_)
  · have hf := nz_ite_f hf h4
    refine nz_aload_n (pc := 14) (i := 0) E dX7_share_14 rfl rfl ?_
    refine nz_getR (pc := 15) (c := 0) (kf := 1) E rfl rfl (nz_upT nz_uX7) (by decide) (List.mem_cons_of_mem _ nz_w249) rfl rfl dX7_share_15 ?_
    refine nz_getNR (pc := 18) (c := 3) (kf := 1) E rfl rfl (nz_upT nz_uX0) (by decide) nz_n106 rfl rfl dX7_share_18 ?_
    refine nz_iload_n (pc := 21) (i := 1) E dX7_share_21 rfl rfl ?_
    obtain ⟨h5, hf⟩ := nz_chk_t hf
    refine nz_iald (pc := 22) (c := 5) E rfl h5 dX7_share_22 ?_
    refine nz_istore (pc := 23) (i := 4) E dX7_share_23 (by decide) rfl ?_
    refine nz_iconst (pc := 25) (v := 0) E dX7_share_25 (by decide) ?_
    refine nz_istore (pc := 26) (i := 5) E dX7_share_26 (by decide) rfl ?_
    refine nz_iconst (pc := 28) (v := 0) E dX7_share_28 (by decide) ?_
    refine nz_istore (pc := 29) (i := 6) E dX7_share_29 (by decide) rfl ?_
    refine nz_weak (lv' := [(0, .ref (q 0)), (1, .int _), (2, .int _), (3, .int _), (4, .int _), (5, .int _), (6, .int _)]) ⟨rfl, rfl, rfl, rfl, rfl, rfl, rfl, trivial⟩ ?_
    refine w_X7_share_31 _ _ _ _ E hR _ _ _ _ _ hf (fun u29 u30 x28 hf => ?_)
    refine nz_iload (pc := 107) (i := 5) E dX7_share_107 rfl ?_
    refine nz_iload (pc := 109) (i := 4) E dX7_share_109 rfl ?_
    obtain ⟨r31, x32, h33, hf⟩ := nz_bnd_t hf
    refine nz_callSI (pc := 111) (As := [.int _]) E (k_X7_factorial   _ _ _ h33) (nz_cwS E nz_w579 nz_w580 nz_w58 nz_w581 ds_X7_factorial ⟨Nat.le_of_ble_eq_true rfl, Nat.le_of_ble_eq_true rfl⟩ rfl rfl) rfl rfl (Nat.le_of_ble_eq_true rfl) dX7_share_111 ?_
    refine nz_iload_n (pc := 114) (i := 3) E dX7_share_114 rfl rfl ?_
    obtain ⟨r34, x35, h36, hf⟩ := nz_bnd_t hf
    refine nz_callSI (pc := 115) (As := [.int _, .int _, .int _]) E (k_X7_inLeastTerms   _ _ _ _ _ h36) (nz_cwS E nz_w591 nz_w592 nz_w58 nz_w593 ds_X7_inLeastTerms ⟨Nat.le_of_ble_eq_true rfl, Nat.le_of_ble_eq_true rfl⟩ rfl rfl) rfl rfl (Nat.le_of_ble_eq_true rfl) dX7_share_115 ?_
    exact nz_iret (pc := 118) E hR rfl hf dX7_share_118
  · have hf := nz_ite_t hf h4
    refine nz_iconst (pc := 12) (v := -1) E dX7_share_12 (by decide) ?_
    exact nz_iret (pc := 13) E hR rfl hf dX7_share_13
def f_X3_append (a0 : Int32) (a1 : Int32) (a2 : Int32) (x : nz_S) : Option (Int32 × nz_S) :=
  if (x.1 33 3) < (6 : Int32) then
    let v2 : Int32 := (x.1 33 3)
    nz_chk (nz_in v2 6) <|
    let x4 : nz_S := nz_put x 34 (v2).toNatClampNeg a0
    let v5 : Int32 := (x4.1 33 3)
    nz_chk (nz_in v5 6) <|
    let x7 : nz_S := nz_put x4 35 (v5).toNatClampNeg a1
    if a2 = (1 : Int32) then
      let v13 : Int32 := (x7.1 33 3)
      nz_chk (nz_in v13 6) <|
      let x15 : nz_S := nz_put x7 36 (v13).toNatClampNeg (1 : Int32)
      let x16 : nz_S := nz_put x15 33 3 ((x15.1 33 3) + (1 : Int32))
      some ((x16.1 33 3), x16)
    else
      let v9 : Int32 := (x7.1 33 3)
      nz_chk (nz_in v9 6) <|
      let x11 : nz_S := nz_put x7 36 (v9).toNatClampNeg (0 : Int32)
      let x12 : nz_S := nz_put x11 33 3 ((x11.1 33 3) + (1 : Int32))
      some ((x12.1 33 3), x12)
  else
    some ((-4 : Int32), x)
theorem ds_X3_append : nz_dsc yX3_append 3 := by unfold nz_dsc; decide +kernel
set_option maxHeartbeats 4000000 in
set_option maxRecDepth 20000 in
theorem k_X3_append {l : Launch} {w : nz_O} {q : Nat → Nat} (a0 : Int32) (a1 : Int32) (a2 : Int32) (x : nz_S) (o : Int32 × nz_S) (hf : f_X3_append a0 a1 a2 x = some o) : nz_MI l yX3_append (nz_T yX3_append cX3_append 4 (some .int)) (nz_R 0 0) w q nz_tK [.ref (q 33), .int a0, .int a1, .int a2] x o := by
  refine nz_enterI (by decide) rfl (Nat.le_of_ble_eq_true rfl) rfl rfl ?_
  intro κ E hw hlq hR
  subst hw; subst hlq
  unfold f_X3_append at hf
  refine nz_weak (lv' := [(0, .ref (q 33)), (1, .int a0), (2, .int a1), (3, .int a2)]) ⟨rfl, rfl, rfl, rfl, trivial⟩ ?_
  refine nz_aload_n (pc := 0) (i := 0) E dX3_append_0 rfl rfl ?_
  refine nz_getI (pc := 1) (c := 33) (kf := 3) E rfl rfl (nz_upT nz_uX3) (by decide) (List.mem_cons_of_mem _ nz_w237) rfl rfl dX3_append_1 ?_
  refine nz_bipush (pc := 4) (v := 6) E dX3_append_4 (by decide) ?_
  refine nz_icmp_lt (pc := 6) (tgt := 12) E dX3_append_6 (by decide) (fun h1 => ?_) (fun h1 => ?_)
  · have hf := nz_ite_t hf h1
    refine nz_aload_n (pc := 12) (i := 0) E dX3_append_12 rfl rfl ?_
    refine nz_getR (pc := 13) (c := 33) (kf := 0) E rfl rfl (nz_upT nz_uX3) (by decide) (List.mem_cons_of_mem _ nz_w234) rfl rfl dX3_append_13 ?_
    refine nz_aload_n (pc := 16) (i := 0) E dX3_append_16 rfl rfl ?_
    refine nz_getI (pc := 17) (c := 33) (kf := 3) E rfl rfl (nz_upT nz_uX3) (by decide) (List.mem_cons_of_mem _ nz_w237) rfl rfl dX3_append_17 ?_
    refine nz_iload_n (pc := 20) (i := 1) E dX3_append_20 rfl rfl ?_
    obtain ⟨h3, hf⟩ := nz_chk_t hf
    refine nz_iast (pc := 21) (c := 34) E rfl h3 dX3_append_21 ?_
    refine nz_aload_n (pc := 22) (i := 0) E dX3_append_22 rfl rfl ?_
    refine nz_getR (pc := 23) (c := 33) (kf := 1) E rfl rfl (nz_upT nz_uX3) (by decide) (List.mem_cons_of_mem _ nz_w235) rfl rfl dX3_append_23 ?_
    refine nz_aload_n (pc := 26) (i := 0) E dX3_append_26 rfl rfl ?_
    refine nz_getI (pc := 27) (c := 33) (kf := 3) E rfl rfl (nz_upT nz_uX3) (by decide) (List.mem_cons_of_mem _ nz_w237) rfl rfl dX3_append_27 ?_
    refine nz_iload_n (pc := 30) (i := 2) E dX3_append_30 rfl rfl ?_
    obtain ⟨h6, hf⟩ := nz_chk_t hf
    refine nz_iast (pc := 31) (c := 35) E rfl h6 dX3_append_31 ?_
    refine nz_aload_n (pc := 32) (i := 0) E dX3_append_32 rfl rfl ?_
    refine nz_getR (pc := 33) (c := 33) (kf := 2) E rfl rfl (nz_upT nz_uX3) (by decide) (List.mem_cons_of_mem _ nz_w236) rfl rfl dX3_append_33 ?_
    refine nz_aload_n (pc := 36) (i := 0) E dX3_append_36 rfl rfl ?_
    refine nz_getI (pc := 37) (c := 33) (kf := 3) E rfl rfl (nz_upT nz_uX3) (by decide) (List.mem_cons_of_mem _ nz_w237) rfl rfl dX3_append_37 ?_
    refine nz_iload_n (pc := 40) (i := 3) E dX3_append_40 rfl rfl ?_
    refine nz_iconst (pc := 41) (v := 1) E dX3_append_41 (by decide) ?_
    refine nz_icmp_ne (pc := 42) (tgt := 49) E dX3_append_42 (by decide) (fun h8 => ?_) (fun h8 => ?_)
    · have hf := nz_ite_f hf h8
      refine nz_iconst (pc := 49) (v := 0) E dX3_append_49 (by decide) ?_
      obtain ⟨h10, hf⟩ := nz_chk_t hf
      refine nz_zast (pc := 50) (c := 36) E rfl h10 rfl dX3_append_50 ?_
      refine nz_aload_n (pc := 51) (i := 0) E dX3_append_51 rfl rfl ?_
      refine nz_dup (pc := 52) E dX3_append_52 rfl ?_
      refine nz_getI (pc := 53) (c := 33) (kf := 3) E rfl rfl (nz_upT nz_uX3) (by decide) (List.mem_cons_of_mem _ nz_w237) rfl rfl dX3_append_53 ?_
      refine nz_iconst (pc := 56) (v := 1) E dX3_append_56 (by decide) ?_
      refine nz_iadd (pc := 57) E dX3_append_57 ?_
      refine nz_putI (pc := 58) (c := 33) (kf := 3) E rfl rfl (nz_upT nz_uX3) (by decide) (List.mem_cons_of_mem _ nz_w237) rfl tyX3 tyX3_ok nmX3 rfl (tyX3_ok 3 (by decide)) rfl dX3_append_58 ?_
      refine nz_aload_n (pc := 61) (i := 0) E dX3_append_61 rfl rfl ?_
      refine nz_getI (pc := 62) (c := 33) (kf := 3) E rfl rfl (nz_upT nz_uX3) (by decide) (List.mem_cons_of_mem _ nz_w237) rfl rfl dX3_append_62 ?_
      exact nz_iret (pc := 65) E hR rfl hf dX3_append_65
    · have hf := nz_ite_t hf h8
      refine nz_iconst (pc := 45) (v := 1) E dX3_append_45 (by decide) ?_
      refine nz_goto (pc := 46) (tgt := 50) E dX3_append_46 (by decide) ?_
      obtain ⟨h14, hf⟩ := nz_chk_t hf
      refine nz_zast (pc := 50) (c := 36) E rfl h14 rfl dX3_append_50 ?_
      refine nz_aload_n (pc := 51) (i := 0) E dX3_append_51 rfl rfl ?_
      refine nz_dup (pc := 52) E dX3_append_52 rfl ?_
      refine nz_getI (pc := 53) (c := 33) (kf := 3) E rfl rfl (nz_upT nz_uX3) (by decide) (List.mem_cons_of_mem _ nz_w237) rfl rfl dX3_append_53 ?_
      refine nz_iconst (pc := 56) (v := 1) E dX3_append_56 (by decide) ?_
      refine nz_iadd (pc := 57) E dX3_append_57 ?_
      refine nz_putI (pc := 58) (c := 33) (kf := 3) E rfl rfl (nz_upT nz_uX3) (by decide) (List.mem_cons_of_mem _ nz_w237) rfl tyX3 tyX3_ok nmX3 rfl (tyX3_ok 3 (by decide)) rfl dX3_append_58 ?_
      refine nz_aload_n (pc := 61) (i := 0) E dX3_append_61 rfl rfl ?_
      refine nz_getI (pc := 62) (c := 33) (kf := 3) E rfl rfl (nz_upT nz_uX3) (by decide) (List.mem_cons_of_mem _ nz_w237) rfl rfl dX3_append_62 ?_
      exact nz_iret (pc := 65) E hR rfl hf dX3_append_65
  · have hf := nz_ite_f hf h1
    refine nz_bipush (pc := 9) (v := -4) E dX3_append_9 (by decide) ?_
    exact nz_iret (pc := 11) E hR rfl hf dX3_append_11
def f_X7_see (a0 : Int32) (a1 : Int32) (a2 : Int32) (x : nz_S) : Option (Int32 × nz_S) :=
  if a0 < (0 : Int32) then
    some ((-2 : Int32), x)
  else
    if (4 : Int32) < a0 then
      some ((-2 : Int32), x)
    else
      if a1 < (97 : Int32) then
        some ((-2 : Int32), x)
      else
        if (122 : Int32) < a1 then
          some ((-2 : Int32), x)
        else
          if a2 < (0 : Int32) then
            some ((-2 : Int32), x)
          else
            if a2 ≤ (1 : Int32) then
              nz_bnd (f_X3_append  a0 a1 a2 x) fun r7 x8 =>
              some (r7, x8)
            else
              some ((-2 : Int32), x)
theorem ds_X7_see : nz_dsc yX7_see 3 := by unfold nz_dsc; decide +kernel
set_option maxHeartbeats 4000000 in
set_option maxRecDepth 20000 in
theorem k_X7_see {l : Launch} {w : nz_O} {q : Nat → Nat} (a0 : Int32) (a1 : Int32) (a2 : Int32) (x : nz_S) (o : Int32 × nz_S) (hf : f_X7_see a0 a1 a2 x = some o) : nz_MI l yX7_see (nz_T yX7_see cX7_see 4 (some .int)) (nz_R 1 23) w q nz_tK [.ref (q 0), .int a0, .int a1, .int a2] x o := by
  refine nz_enterI (by decide) rfl (Nat.le_of_ble_eq_true rfl) rfl rfl ?_
  intro κ E hw hlq hR
  subst hw; subst hlq
  unfold f_X7_see at hf
  refine nz_weak (lv' := [(0, .ref (q 0)), (1, .int a0), (2, .int a1), (3, .int a2)]) ⟨rfl, rfl, rfl, rfl, trivial⟩ ?_
  refine nz_iload_n (pc := 0) (i := 1) E dX7_see_0 rfl rfl ?_
  refine nz_if_lt (pc := 1) (tgt := 30) E dX7_see_1 (by decide) (fun h1 => ?_) (fun h1 => ?_)
  · have hf := nz_ite_t hf h1
    refine nz_bipush (pc := 30) (v := -2) E dX7_see_30 (by decide) ?_
    exact nz_iret (pc := 32) E hR rfl hf dX7_see_32
  · have hf := nz_ite_f hf h1
    refine nz_iload_n (pc := 4) (i := 1) E dX7_see_4 rfl rfl ?_
    refine nz_iconst (pc := 5) (v := 4) E dX7_see_5 (by decide) ?_
    refine nz_icmp_gt (pc := 6) (tgt := 30) E dX7_see_6 (by decide) (fun h2 => ?_) (fun h2 => ?_)
    · have hf := nz_ite_t hf h2
      refine nz_bipush (pc := 30) (v := -2) E dX7_see_30 (by decide) ?_
      exact nz_iret (pc := 32) E hR rfl hf dX7_see_32
    · have hf := nz_ite_f hf h2
      refine nz_iload_n (pc := 9) (i := 2) E dX7_see_9 rfl rfl ?_
      refine nz_bipush (pc := 10) (v := 97) E dX7_see_10 (by decide) ?_
      refine nz_icmp_lt (pc := 12) (tgt := 30) E dX7_see_12 (by decide) (fun h3 => ?_) (fun h3 => ?_)
      · have hf := nz_ite_t hf h3
        refine nz_bipush (pc := 30) (v := -2) E dX7_see_30 (by decide) ?_
        exact nz_iret (pc := 32) E hR rfl hf dX7_see_32
      · have hf := nz_ite_f hf h3
        refine nz_iload_n (pc := 15) (i := 2) E dX7_see_15 rfl rfl ?_
        refine nz_bipush (pc := 16) (v := 122) E dX7_see_16 (by decide) ?_
        refine nz_icmp_gt (pc := 18) (tgt := 30) E dX7_see_18 (by decide) (fun h4 => ?_) (fun h4 => ?_)
        · have hf := nz_ite_t hf h4
          refine nz_bipush (pc := 30) (v := -2) E dX7_see_30 (by decide) ?_
          exact nz_iret (pc := 32) E hR rfl hf dX7_see_32
        · have hf := nz_ite_f hf h4
          refine nz_iload_n (pc := 21) (i := 3) E dX7_see_21 rfl rfl ?_
          refine nz_if_lt (pc := 22) (tgt := 30) E dX7_see_22 (by decide) (fun h5 => ?_) (fun h5 => ?_)
          · have hf := nz_ite_t hf h5
            refine nz_bipush (pc := 30) (v := -2) E dX7_see_30 (by decide) ?_
            exact nz_iret (pc := 32) E hR rfl hf dX7_see_32
          · have hf := nz_ite_f hf h5
            refine nz_iload_n (pc := 25) (i := 3) E dX7_see_25 rfl rfl ?_
            refine nz_iconst (pc := 26) (v := 1) E dX7_see_26 (by decide) ?_
            refine nz_icmp_le (pc := 27) (tgt := 33) E dX7_see_27 (by decide) (fun h6 => ?_) (fun h6 => ?_)
            · have hf := nz_ite_t hf h6
              refine nz_aload_n (pc := 33) (i := 0) E dX7_see_33 rfl rfl ?_
              refine nz_getR (pc := 34) (c := 0) (kf := 6) E rfl rfl (nz_upT nz_uX7) (by decide) (List.mem_cons_of_mem _ nz_w254) rfl rfl dX7_see_34 ?_
              refine nz_iload_n (pc := 37) (i := 1) E dX7_see_37 rfl rfl ?_
              refine nz_iload_n (pc := 38) (i := 2) E dX7_see_38 rfl rfl ?_
              refine nz_iload_n (pc := 39) (i := 3) E dX7_see_39 rfl rfl ?_
              obtain ⟨r7, x8, h9, hf⟩ := nz_bnd_t hf
              refine nz_callVI (pc := 40) (c0 := 33) (As := [.int _, .int _, .int _]) E rfl rfl (k_X3_append   _ _ _ _ _ h9) (nz_cwV E nz_w604 nz_w605 nz_w606 nz_w66 nz_w607 ds_X3_append ⟨Nat.le_of_ble_eq_true rfl, Nat.le_of_ble_eq_true rfl⟩ rfl rfl) rfl rfl (Nat.le_of_ble_eq_true rfl) dX7_see_40 ?_
              exact nz_iret (pc := 43) E hR rfl hf dX7_see_43
            · have hf := nz_ite_f hf h6
              refine nz_bipush (pc := 30) (v := -2) E dX7_see_30 (by decide) ?_
              exact nz_iret (pc := 32) E hR rfl hf dX7_see_32
def f_X3_clear (x : nz_S) : Option (Int32 × nz_S) :=
  let v1 : Int32 := (x.1 33 3)
  let x2 : nz_S := nz_put x 33 3 (0 : Int32)
  some (v1, x2)
theorem ds_X3_clear : nz_dsc yX3_clear 0 := by unfold nz_dsc; decide +kernel
set_option maxHeartbeats 4000000 in
set_option maxRecDepth 20000 in
theorem k_X3_clear {l : Launch} {w : nz_O} {q : Nat → Nat} (x : nz_S) (o : Int32 × nz_S) (hf : f_X3_clear x = some o) : nz_MI l yX3_clear (nz_T yX3_clear cX3_clear 2 (some .int)) (nz_R 0 0) w q nz_tK [.ref (q 33)] x o := by
  refine nz_enterI (by decide) rfl (Nat.le_of_ble_eq_true rfl) rfl rfl ?_
  intro κ E hw hlq hR
  subst hw; subst hlq
  unfold f_X3_clear at hf
  refine nz_weak (lv' := [(0, .ref (q 33))]) ⟨rfl, trivial⟩ ?_
  refine nz_aload_n (pc := 0) (i := 0) E dX3_clear_0 rfl rfl ?_
  refine nz_getI (pc := 1) (c := 33) (kf := 3) E rfl rfl (nz_upT nz_uX3) (by decide) (List.mem_cons_of_mem _ nz_w237) rfl rfl dX3_clear_1 ?_
  refine nz_istore_n (pc := 4) (i := 1) E dX3_clear_4 rfl (by decide) rfl ?_
  refine nz_aload_n (pc := 5) (i := 0) E dX3_clear_5 rfl rfl ?_
  refine nz_iconst (pc := 6) (v := 0) E dX3_clear_6 (by decide) ?_
  refine nz_putI (pc := 7) (c := 33) (kf := 3) E rfl rfl (nz_upT nz_uX3) (by decide) (List.mem_cons_of_mem _ nz_w237) rfl tyX3 tyX3_ok nmX3 rfl (tyX3_ok 3 (by decide)) rfl dX3_clear_7 ?_
  refine nz_iload_n (pc := 10) (i := 1) E dX3_clear_10 rfl rfl ?_
  exact nz_iret (pc := 11) E hR rfl hf dX3_clear_11
def f_X7_unsee (x : nz_S) : Option (Int32 × nz_S) :=
  nz_bnd (f_X3_clear   x) fun r1 x2 =>
  some (r1, x2)
theorem ds_X7_unsee : nz_dsc yX7_unsee 0 := by unfold nz_dsc; decide +kernel
set_option maxHeartbeats 4000000 in
set_option maxRecDepth 20000 in
theorem k_X7_unsee {l : Launch} {w : nz_O} {q : Nat → Nat} (x : nz_S) (o : Int32 × nz_S) (hf : f_X7_unsee x = some o) : nz_MI l yX7_unsee (nz_T yX7_unsee cX7_unsee 1 (some .int)) (nz_R 1 21) w q nz_tK [.ref (q 0)] x o := by
  refine nz_enterI (by decide) rfl (Nat.le_of_ble_eq_true rfl) rfl rfl ?_
  intro κ E hw hlq hR
  subst hw; subst hlq
  unfold f_X7_unsee at hf
  refine nz_weak (lv' := [(0, .ref (q 0))]) ⟨rfl, trivial⟩ ?_
  refine nz_aload_n (pc := 0) (i := 0) E dX7_unsee_0 rfl rfl ?_
  refine nz_getR (pc := 1) (c := 0) (kf := 6) E rfl rfl (nz_upT nz_uX7) (by decide) (List.mem_cons_of_mem _ nz_w254) rfl rfl dX7_unsee_1 ?_
  obtain ⟨r1, x2, h3, hf⟩ := nz_bnd_t hf
  refine nz_callVI (pc := 4) (c0 := 33) (As := []) E rfl rfl (k_X3_clear   _ _ h3) (nz_cwV E nz_w612 nz_w613 nz_w614 nz_w66 nz_w615 ds_X3_clear ⟨Nat.le_of_ble_eq_true rfl, Nat.le_of_ble_eq_true rfl⟩ rfl rfl) rfl rfl (Nat.le_of_ble_eq_true rfl) dX7_unsee_4 ?_
  exact nz_iret (pc := 7) E hR rfl hf dX7_unsee_7
def f_X7_choicesOf (a0 : Int32) (x : nz_S) : Option (Int32 × nz_S) :=
  let v1 : Int32 := (a0 / (9 : Int32))
  let v2 : Int32 := (a0 / (3 : Int32))
  some ((((((a0 / (27 : Int32)) * (1000 : Int32)) + ((v1 - v1 / (3 : Int32) * (3 : Int32)) * (100 : Int32))) + ((v2 - v2 / (3 : Int32) * (3 : Int32)) * (10 : Int32))) + (a0 - a0 / (3 : Int32) * (3 : Int32))), x)
theorem ds_X7_choicesOf : nz_dsc yX7_choicesOf 1 := by unfold nz_dsc; decide +kernel
set_option maxHeartbeats 4000000 in
set_option maxRecDepth 20000 in
theorem k_X7_choicesOf {l : Launch} {w : nz_O} {q : Nat → Nat} (a0 : Int32) (x : nz_S) (o : Int32 × nz_S) (hf : f_X7_choicesOf a0 x = some o) : nz_MI l yX7_choicesOf (nz_T yX7_choicesOf cX7_choicesOf 1 (some .int)) (nz_R 0 0) w q nz_tK [.int a0] x o := by
  refine nz_enterI (by decide) rfl (Nat.le_of_ble_eq_true rfl) rfl rfl ?_
  intro κ E hw hlq hR
  subst hw; subst hlq
  unfold f_X7_choicesOf at hf
  refine nz_weak (lv' := [(0, .int a0)]) ⟨rfl, trivial⟩ ?_
  refine nz_iload_n (pc := 0) (i := 0) E dX7_choicesOf_0 rfl rfl ?_
  refine nz_bipush (pc := 1) (v := 27) E dX7_choicesOf_1 (by decide) ?_
  refine nz_idiv (pc := 3) E dX7_choicesOf_3 (by decide) ?_
  refine nz_sipush (pc := 4) (v := 1000) E dX7_choicesOf_4 (by decide) ?_
  refine nz_imul (pc := 7) E dX7_choicesOf_7 ?_
  refine nz_iload_n (pc := 8) (i := 0) E dX7_choicesOf_8 rfl rfl ?_
  refine nz_bipush (pc := 9) (v := 9) E dX7_choicesOf_9 (by decide) ?_
  refine nz_idiv (pc := 11) E dX7_choicesOf_11 (by decide) ?_
  refine nz_iconst (pc := 12) (v := 3) E dX7_choicesOf_12 (by decide) ?_
  refine nz_irem (pc := 13) E dX7_choicesOf_13 (by decide) ?_
  refine nz_bipush (pc := 14) (v := 100) E dX7_choicesOf_14 (by decide) ?_
  refine nz_imul (pc := 16) E dX7_choicesOf_16 ?_
  refine nz_iadd (pc := 17) E dX7_choicesOf_17 ?_
  refine nz_iload_n (pc := 18) (i := 0) E dX7_choicesOf_18 rfl rfl ?_
  refine nz_iconst (pc := 19) (v := 3) E dX7_choicesOf_19 (by decide) ?_
  refine nz_idiv (pc := 20) E dX7_choicesOf_20 (by decide) ?_
  refine nz_iconst (pc := 21) (v := 3) E dX7_choicesOf_21 (by decide) ?_
  refine nz_irem (pc := 22) E dX7_choicesOf_22 (by decide) ?_
  refine nz_bipush (pc := 23) (v := 10) E dX7_choicesOf_23 (by decide) ?_
  refine nz_imul (pc := 25) E dX7_choicesOf_25 ?_
  refine nz_iadd (pc := 26) E dX7_choicesOf_26 ?_
  refine nz_iload_n (pc := 27) (i := 0) E dX7_choicesOf_27 rfl rfl ?_
  refine nz_iconst (pc := 28) (v := 3) E dX7_choicesOf_28 (by decide) ?_
  refine nz_irem (pc := 29) E dX7_choicesOf_29 (by decide) ?_
  refine nz_iadd (pc := 30) E dX7_choicesOf_30 ?_
  exact nz_iret (pc := 31) E hR rfl hf dX7_choicesOf_31
def f_X3_agree_2 (c1 : Int32) (c2 : Int32) : Nat → Int32 → nz_S → (Int32 → nz_S → Option (Int32 × nz_S)) → Option (Int32 × nz_S)
  | 0, _, _, _ => none
  | fu + 1, w3, x, K =>
  if (x.1 33 3) ≤ w3 then
    K w3 x
  else
    nz_chk (nz_in w3 6) <|
    if (x.1 34 (w3).toNatClampNeg) = c1 then
      nz_chk (nz_in w3 6) <|
      if (x.1 35 (w3).toNatClampNeg) = c2 then
        nz_chk (nz_in w3 6) <|
        if (1 : Int32) = (x.1 36 (w3).toNatClampNeg) then
          let v12 : Int32 := w3 + 1
          f_X3_agree_2 c1 c2 fu v12 x K
        else
          some ((0 : Int32), x)
      else
        nz_chk (nz_in w3 6) <|
        if (0 : Int32) = (x.1 36 (w3).toNatClampNeg) then
          let v9 : Int32 := w3 + 1
          f_X3_agree_2 c1 c2 fu v9 x K
        else
          some ((0 : Int32), x)
    else
      let v4 : Int32 := w3 + 1
      f_X3_agree_2 c1 c2 fu v4 x K
def f_X3_agree (a0 : Int32) (a1 : Int32) (x : nz_S) : Option (Int32 × nz_S) :=
  f_X3_agree_2 a0 a1 nz_F (0 : Int32) x fun u14 x13 =>
    some ((1 : Int32), x13)
theorem ds_X3_agree : nz_dsc yX3_agree 2 := by unfold nz_dsc; decide +kernel
set_option maxHeartbeats 4000000 in
set_option maxRecDepth 20000 in
theorem w_X3_agree_2 {κ : nz_C} {q : Nat → Nat} {o : Int32 × nz_S} (c1 : Int32) (c2 : Int32) (E : nz_Env κ q nz_tK 4 cX3_agree RX3 (nz_T yX3_agree cX3_agree 4 (some .boolean)) (nz_R 0 0)) (hR : nz_RI κ q nz_tK .boolean o) : ∀ (fu : Nat) (w3 : Int32) (x : nz_S) (K : Int32 → nz_S → Option (Int32 × nz_S)), f_X3_agree_2 c1 c2 fu w3 x K = some o → (∀ (w3 : Int32) (x : nz_S), K w3 x = some o → nz_St κ q nz_tK 4 52 [(0, .ref (q 33)), (1, .int c1), (2, .int c2), (3, .int w3)] [] x) → nz_St κ q nz_tK 4 2 [(0, .ref (q 33)), (1, .int c1), (2, .int c2), (3, .int w3)] [] x := by
  intro fu
  induction fu with
  | zero => intro w3 x K hf; rw [f_X3_agree_2] at hf; cases hf
  | succ fu ih =>
    intro w3 x K hf hK
    rw [f_X3_agree_2] at hf
    refine nz_iload_n (pc := 2) (i := 3) E dX3_agree_2 rfl rfl ?_
    refine nz_aload_n (pc := 3) (i := 0) E dX3_agree_3 rfl rfl ?_
    refine nz_getI (pc := 4) (c := 33) (kf := 3) E rfl rfl (nz_upT nz_uX3) (by decide) (List.mem_cons_of_mem _ nz_w237) rfl rfl dX3_agree_4 ?_
    refine nz_icmp_ge (pc := 7) (tgt := 52) E dX3_agree_7 (by decide) (fun h1 => ?_) (fun h1 => ?_)
    · have hf := nz_ite_t hf h1
      refine nz_weak (lv' := [(0, .ref (q 33)), (1, .int _), (2, .int _), (3, .int _)]) ⟨rfl, rfl, rfl, rfl, trivial⟩ ?_
      exact hK _ _ hf
    · have hf := nz_ite_f hf h1
      refine nz_aload_n (pc := 10) (i := 0) E dX3_agree_10 rfl rfl ?_
      refine nz_getR (pc := 11) (c := 33) (kf := 0) E rfl rfl (nz_upT nz_uX3) (by decide) (List.mem_cons_of_mem _ nz_w234) rfl rfl dX3_agree_11 ?_
      refine nz_iload_n (pc := 14) (i := 3) E dX3_agree_14 rfl rfl ?_
      obtain ⟨h2, hf⟩ := nz_chk_t hf
      refine nz_iald (pc := 15) (c := 34) E rfl h2 dX3_agree_15 ?_
      refine nz_iload_n (pc := 16) (i := 1) E dX3_agree_16 rfl rfl ?_
      refine nz_icmp_ne (pc := 17) (tgt := 46) E dX3_agree_17 (by decide) (fun h3 => ?_) (fun h3 => ?_)
      · have hf := nz_ite_f hf h3
        refine nz_iinc (pc := 46) (i := 3) (w := 1) E dX3_agree_46 rfl (by decide) (by decide) rfl ?_
        refine nz_goto (pc := 49) (tgt := 2) E dX3_agree_49 (by decide) ?_
        refine nz_weak (lv' := [(0, .ref (q 33)), (1, .int _), (2, .int _), (3, .int _)]) ⟨rfl, rfl, rfl, rfl, trivial⟩ ?_
        exact ih _ _ _ hf hK
      · have hf := nz_ite_t hf h3
        refine nz_aload_n (pc := 20) (i := 0) E dX3_agree_20 rfl rfl ?_
        refine nz_getR (pc := 21) (c := 33) (kf := 1) E rfl rfl (nz_upT nz_uX3) (by decide) (List.mem_cons_of_mem _ nz_w235) rfl rfl dX3_agree_21 ?_
        refine nz_iload_n (pc := 24) (i := 3) E dX3_agree_24 rfl rfl ?_
        obtain ⟨h5, hf⟩ := nz_chk_t hf
        refine nz_iald (pc := 25) (c := 35) E rfl h5 dX3_agree_25 ?_
        refine nz_iload_n (pc := 26) (i := 2) E dX3_agree_26 rfl rfl ?_
        refine nz_icmp_ne (pc := 27) (tgt := 34) E dX3_agree_27 (by decide) (fun h6 => ?_) (fun h6 => ?_)
        · have hf := nz_ite_f hf h6
          refine nz_iconst (pc := 34) (v := 0) E dX3_agree_34 (by decide) ?_
          refine nz_aload_n (pc := 35) (i := 0) E dX3_agree_35 rfl rfl ?_
          refine nz_getR (pc := 36) (c := 33) (kf := 2) E rfl rfl (nz_upT nz_uX3) (by decide) (List.mem_cons_of_mem _ nz_w236) rfl rfl dX3_agree_36 ?_
          refine nz_iload_n (pc := 39) (i := 3) E dX3_agree_39 rfl rfl ?_
          obtain ⟨h7, hf⟩ := nz_chk_t hf
          refine nz_zald (pc := 40) (c := 36) E rfl h7 dX3_agree_40 ?_
          refine nz_icmp_eq (pc := 41) (tgt := 46) E dX3_agree_41 (by decide) (fun h8 => ?_) (fun h8 => ?_)
          · have hf := nz_ite_t hf h8
            refine nz_iinc (pc := 46) (i := 3) (w := 1) E dX3_agree_46 rfl (by decide) (by decide) rfl ?_
            refine nz_goto (pc := 49) (tgt := 2) E dX3_agree_49 (by decide) ?_
            refine nz_weak (lv' := [(0, .ref (q 33)), (1, .int _), (2, .int _), (3, .int _)]) ⟨rfl, rfl, rfl, rfl, trivial⟩ ?_
            exact ih _ _ _ hf hK
          · have hf := nz_ite_f hf h8
            refine nz_iconst (pc := 44) (v := 0) E dX3_agree_44 (by decide) ?_
            exact nz_iret (pc := 45) E hR rfl hf dX3_agree_45
        · have hf := nz_ite_t hf h6
          refine nz_iconst (pc := 30) (v := 1) E dX3_agree_30 (by decide) ?_
          refine nz_goto (pc := 31) (tgt := 35) E dX3_agree_31 (by decide) ?_
          refine nz_aload_n (pc := 35) (i := 0) E dX3_agree_35 rfl rfl ?_
          refine nz_getR (pc := 36) (c := 33) (kf := 2) E rfl rfl (nz_upT nz_uX3) (by decide) (List.mem_cons_of_mem _ nz_w236) rfl rfl dX3_agree_36 ?_
          refine nz_iload_n (pc := 39) (i := 3) E dX3_agree_39 rfl rfl ?_
          obtain ⟨h10, hf⟩ := nz_chk_t hf
          refine nz_zald (pc := 40) (c := 36) E rfl h10 dX3_agree_40 ?_
          refine nz_icmp_eq (pc := 41) (tgt := 46) E dX3_agree_41 (by decide) (fun h11 => ?_) (fun h11 => ?_)
          · have hf := nz_ite_t hf h11
            refine nz_iinc (pc := 46) (i := 3) (w := 1) E dX3_agree_46 rfl (by decide) (by decide) rfl ?_
            refine nz_goto (pc := 49) (tgt := 2) E dX3_agree_49 (by decide) ?_
            refine nz_weak (lv' := [(0, .ref (q 33)), (1, .int _), (2, .int _), (3, .int _)]) ⟨rfl, rfl, rfl, rfl, trivial⟩ ?_
            exact ih _ _ _ hf hK
          · have hf := nz_ite_f hf h11
            refine nz_iconst (pc := 44) (v := 0) E dX3_agree_44 (by decide) ?_
            exact nz_iret (pc := 45) E hR rfl hf dX3_agree_45
set_option maxHeartbeats 4000000 in
set_option maxRecDepth 20000 in
theorem k_X3_agree {l : Launch} {w : nz_O} {q : Nat → Nat} (a0 : Int32) (a1 : Int32) (x : nz_S) (o : Int32 × nz_S) (hf : f_X3_agree a0 a1 x = some o) : nz_MI l yX3_agree (nz_T yX3_agree cX3_agree 4 (some .boolean)) (nz_R 0 0) w q nz_tK [.ref (q 33), .int a0, .int a1] x o := by
  refine nz_enterI (by decide) rfl (Nat.le_of_ble_eq_true rfl) rfl rfl ?_
  intro κ E hw hlq hR
  subst hw; subst hlq
  unfold f_X3_agree at hf
  refine nz_weak (lv' := [(0, .ref (q 33)), (1, .int a0), (2, .int a1)]) ⟨rfl, rfl, rfl, trivial⟩ ?_
  refine nz_iconst (pc := 0) (v := 0) E dX3_agree_0 (by decide) ?_
  refine nz_istore_n (pc := 1) (i := 3) E dX3_agree_1 rfl (by decide) rfl ?_
  refine nz_weak (lv' := [(0, .ref (q 33)), (1, .int _), (2, .int _), (3, .int _)]) ⟨rfl, rfl, rfl, rfl, trivial⟩ ?_
  refine w_X3_agree_2 _ _ E hR _ _ _ _ hf (fun u14 x13 hf => ?_)
  refine nz_iconst (pc := 52) (v := 1) E dX3_agree_52 (by decide) ?_
  exact nz_iret (pc := 53) E hR rfl hf dX3_agree_53
def f_X7_agreesWithSights_4 (c1 : Int32) : Nat → Int32 → Int32 → nz_S → (Int32 → Int32 → nz_S → Option (Int32 × nz_S)) → Option (Int32 × nz_S)
  | 0, _, _, _, _ => none
  | fu + 1, w2, w3, x, K =>
  if (4 : Int32) ≤ w3 then
    K w2 w3 x
  else
    nz_chk (nz_in w2 12) <|
    nz_bnd (f_X3_agree  w3 (x.1 4 (w2).toNatClampNeg) x) fun r3 x4 =>
    if r3 = (0 : Int32) then
      some ((0 : Int32), x4)
    else
      nz_bnd (f_X7_figure  (c1).toInt64 ((3 : Int32) - w3) x4) fun r7 x8 =>
      nz_bnd (f_X0_follow 3 w2 r7 x8) fun r10 x11 =>
      let v13 : Int32 := w3 + 1
      f_X7_agreesWithSights_4 c1 fu r10 v13 x11 K
def f_X7_agreesWithSights (a0 : Int32) (x : nz_S) : Option (Int32 × nz_S) :=
  f_X7_agreesWithSights_4 a0 nz_F (0 : Int32) (0 : Int32) x fun u15 u16 x14 =>
    nz_chk (nz_in u15 12) <|
    nz_bnd (f_X3_agree  (4 : Int32) (x14.1 4 (u15).toNatClampNeg) x14) fun r18 x19 =>
    nz_chk (nz_bo r18) <|
    some (r18, x19)
theorem ds_X7_agreesWithSights : nz_dsc yX7_agreesWithSights 1 := by unfold nz_dsc; decide +kernel
set_option maxHeartbeats 4000000 in
set_option maxRecDepth 20000 in
theorem w_X7_agreesWithSights_4 {κ : nz_C} {q : Nat → Nat} {o : Int32 × nz_S} (c1 : Int32) (E : nz_Env κ q nz_tK 4 cX7_agreesWithSights RX7 (nz_T yX7_agreesWithSights cX7_agreesWithSights 4 (some .boolean)) (nz_R 2 45)) (hR : nz_RI κ q nz_tK .boolean o) : ∀ (fu : Nat) (w2 : Int32) (w3 : Int32) (x : nz_S) (K : Int32 → Int32 → nz_S → Option (Int32 × nz_S)), f_X7_agreesWithSights_4 c1 fu w2 w3 x K = some o → (∀ (w2 : Int32) (w3 : Int32) (x : nz_S), K w2 w3 x = some o → nz_St κ q nz_tK 4 54 [(0, .ref (q 0)), (1, .int c1), (2, .int w2), (3, .int w3)] [] x) → nz_St κ q nz_tK 4 4 [(0, .ref (q 0)), (1, .int c1), (2, .int w2), (3, .int w3)] [] x := by
  intro fu
  induction fu with
  | zero => intro w2 w3 x K hf; rw [f_X7_agreesWithSights_4] at hf; cases hf
  | succ fu ih =>
    intro w2 w3 x K hf hK
    rw [f_X7_agreesWithSights_4] at hf
    refine nz_iload_n (pc := 4) (i := 3) E dX7_agreesWithSights_4 rfl rfl ?_
    refine nz_iconst (pc := 5) (v := 4) E dX7_agreesWithSights_5 (by decide) ?_
    refine nz_icmp_ge (pc := 6) (tgt := 54) E dX7_agreesWithSights_6 (by decide) (fun h1 => ?_) (fun h1 => ?_)
    · have hf := nz_ite_t hf h1
      refine nz_weak (lv' := [(0, .ref (q 0)), (1, .int _), (2, .int _), (3, .int _)]) ⟨rfl, rfl, rfl, rfl, trivial⟩ ?_
      exact hK _ _ _ hf
    · have hf := nz_ite_f hf h1
      refine nz_aload_n (pc := 9) (i := 0) E dX7_agreesWithSights_9 rfl rfl ?_
      refine nz_getR (pc := 10) (c := 0) (kf := 6) E rfl rfl (nz_upT nz_uX7) (by decide) (List.mem_cons_of_mem _ nz_w254) rfl rfl dX7_agreesWithSights_10 ?_
      refine nz_iload_n (pc := 13) (i := 3) E dX7_agreesWithSights_13 rfl rfl ?_
      refine nz_aload_n (pc := 14) (i := 0) E dX7_agreesWithSights_14 rfl rfl ?_
      refine nz_getR (pc := 15) (c := 0) (kf := 1) E rfl rfl (nz_upT nz_uX7) (by decide) (List.mem_cons_of_mem _ nz_w249) rfl rfl dX7_agreesWithSights_15 ?_
      refine nz_getNR (pc := 18) (c := 3) (kf := 0) E rfl rfl (nz_upT nz_uX0) (by decide) nz_n102 rfl rfl dX7_agreesWithSights_18 ?_
      refine nz_iload_n (pc := 21) (i := 2) E dX7_agreesWithSights_21 rfl rfl ?_
      obtain ⟨h2, hf⟩ := nz_chk_t hf
      refine nz_iald (pc := 22) (c := 4) E rfl h2 dX7_agreesWithSights_22 ?_
      obtain ⟨r3, x4, h5, hf⟩ := nz_bnd_t hf
      refine nz_callVI (pc := 23) (c0 := 33) (As := [.int _, .int _]) E rfl rfl (k_X3_agree   _ _ _ _ h5) (nz_cwV E nz_w627 nz_w628 nz_w629 nz_w66 nz_w630 ds_X3_agree ⟨Nat.le_of_ble_eq_true rfl, Nat.le_of_ble_eq_true rfl⟩ rfl rfl) rfl rfl (Nat.le_of_ble_eq_true rfl) dX7_agreesWithSights_23 ?_
      refine nz_if_ne (pc := 26) (tgt := 31) E dX7_agreesWithSights_26 (by decide) (fun h6 => ?_) (fun h6 => ?_)
      · have hf := nz_ite_f hf h6
        refine nz_aload_n (pc := 31) (i := 0) E dX7_agreesWithSights_31 rfl rfl ?_
        refine nz_getR (pc := 32) (c := 0) (kf := 1) E rfl rfl (nz_upT nz_uX7) (by decide) (List.mem_cons_of_mem _ nz_w249) rfl rfl dX7_agreesWithSights_32 ?_
        refine nz_iload_n (pc := 35) (i := 2) E dX7_agreesWithSights_35 rfl rfl ?_
        refine nz_iload_n (pc := 36) (i := 1) E dX7_agreesWithSights_36 rfl rfl ?_
        refine nz_i2l (pc := 37) E dX7_agreesWithSights_37 ?_
        refine nz_iconst (pc := 38) (v := 3) E dX7_agreesWithSights_38 (by decide) ?_
        refine nz_iload_n (pc := 39) (i := 3) E dX7_agreesWithSights_39 rfl rfl ?_
        refine nz_isub (pc := 40) E dX7_agreesWithSights_40 ?_
        obtain ⟨r7, x8, h9, hf⟩ := nz_bnd_t hf
        refine nz_callSI (pc := 41) (As := [.long _, .int _]) E (k_X7_figure   _ _ _ _ h9) (nz_cwS E nz_w546 nz_w547 nz_w58 nz_w548 ds_X7_figure ⟨Nat.le_of_ble_eq_true rfl, Nat.le_of_ble_eq_true rfl⟩ rfl rfl) rfl rfl (Nat.le_of_ble_eq_true rfl) dX7_agreesWithSights_41 ?_
        obtain ⟨r10, x11, h12, hf⟩ := nz_bnd_t hf
        refine nz_callVI (pc := 44) (c0 := 3) (As := [.int _, .int _]) E rfl rfl (k_X0_follow 3 nz_g3 _ _ _ _ h12) (nz_cwV E nz_w549 nz_w550 nz_w551 nz_w60 nz_w552 ds_X0_follow ⟨Nat.le_of_ble_eq_true rfl, Nat.le_of_ble_eq_true rfl⟩ rfl rfl) rfl rfl (Nat.le_of_ble_eq_true rfl) dX7_agreesWithSights_44 ?_
        refine nz_istore_n (pc := 47) (i := 2) E dX7_agreesWithSights_47 rfl (by decide) rfl ?_
        refine nz_iinc (pc := 48) (i := 3) (w := 1) E dX7_agreesWithSights_48 rfl (by decide) (by decide) rfl ?_
        refine nz_goto (pc := 51) (tgt := 4) E dX7_agreesWithSights_51 (by decide) ?_
        refine nz_weak (lv' := [(0, .ref (q 0)), (1, .int _), (2, .int _), (3, .int _)]) ⟨rfl, rfl, rfl, rfl, trivial⟩ ?_
        exact ih _ _ _ _ hf hK
      · have hf := nz_ite_t hf h6
        refine nz_iconst (pc := 29) (v := 0) E dX7_agreesWithSights_29 (by decide) ?_
        exact nz_iret (pc := 30) E hR rfl hf dX7_agreesWithSights_30
set_option maxHeartbeats 4000000 in
set_option maxRecDepth 20000 in
theorem k_X7_agreesWithSights {l : Launch} {w : nz_O} {q : Nat → Nat} (a0 : Int32) (x : nz_S) (o : Int32 × nz_S) (hf : f_X7_agreesWithSights a0 x = some o) : nz_MI l yX7_agreesWithSights (nz_T yX7_agreesWithSights cX7_agreesWithSights 4 (some .boolean)) (nz_R 2 45) w q nz_tK [.ref (q 0), .int a0] x o := by
  refine nz_enterI (by decide) rfl (Nat.le_of_ble_eq_true rfl) rfl rfl ?_
  intro κ E hw hlq hR
  subst hw; subst hlq
  unfold f_X7_agreesWithSights at hf
  refine nz_weak (lv' := [(0, .ref (q 0)), (1, .int a0)]) ⟨rfl, rfl, trivial⟩ ?_
  refine nz_iconst (pc := 0) (v := 0) E dX7_agreesWithSights_0 (by decide) ?_
  refine nz_istore_n (pc := 1) (i := 2) E dX7_agreesWithSights_1 rfl (by decide) rfl ?_
  refine nz_iconst (pc := 2) (v := 0) E dX7_agreesWithSights_2 (by decide) ?_
  refine nz_istore_n (pc := 3) (i := 3) E dX7_agreesWithSights_3 rfl (by decide) rfl ?_
  refine nz_weak (lv' := [(0, .ref (q 0)), (1, .int _), (2, .int _), (3, .int _)]) ⟨rfl, rfl, rfl, rfl, trivial⟩ ?_
  refine w_X7_agreesWithSights_4 _ E hR _ _ _ _ _ hf (fun u15 u16 x14 hf => ?_)
  refine nz_aload_n (pc := 54) (i := 0) E dX7_agreesWithSights_54 rfl rfl ?_
  refine nz_getR (pc := 55) (c := 0) (kf := 6) E rfl rfl (nz_upT nz_uX7) (by decide) (List.mem_cons_of_mem _ nz_w254) rfl rfl dX7_agreesWithSights_55 ?_
  refine nz_iconst (pc := 58) (v := 4) E dX7_agreesWithSights_58 (by decide) ?_
  refine nz_aload_n (pc := 59) (i := 0) E dX7_agreesWithSights_59 rfl rfl ?_
  refine nz_getR (pc := 60) (c := 0) (kf := 1) E rfl rfl (nz_upT nz_uX7) (by decide) (List.mem_cons_of_mem _ nz_w249) rfl rfl dX7_agreesWithSights_60 ?_
  refine nz_getNR (pc := 63) (c := 3) (kf := 0) E rfl rfl (nz_upT nz_uX0) (by decide) nz_n102 rfl rfl dX7_agreesWithSights_63 ?_
  refine nz_iload_n (pc := 66) (i := 2) E dX7_agreesWithSights_66 rfl rfl ?_
  obtain ⟨h17, hf⟩ := nz_chk_t hf
  refine nz_iald (pc := 67) (c := 4) E rfl h17 dX7_agreesWithSights_67 ?_
  obtain ⟨r18, x19, h20, hf⟩ := nz_bnd_t hf
  refine nz_callVI (pc := 68) (c0 := 33) (As := [.int _, .int _]) E rfl rfl (k_X3_agree   _ _ _ _ h20) (nz_cwV E nz_w627 nz_w628 nz_w629 nz_w66 nz_w630 ds_X3_agree ⟨Nat.le_of_ble_eq_true rfl, Nat.le_of_ble_eq_true rfl⟩ rfl rfl) rfl rfl (Nat.le_of_ble_eq_true rfl) dX7_agreesWithSights_68 ?_
  obtain ⟨h21, hf⟩ := nz_chk_t hf
  exact nz_iret (pc := 71) E hR (nz_narZ h21) hf dX7_agreesWithSights_71
def f_X7_rows_33 (c1 : Int32) : Nat → Int32 → Int32 → Int32 → nz_S → (Int32 → Int32 → Int32 → nz_S → Option (Int32 × nz_S)) → Option (Int32 × nz_S)
  | 0, _, _, _, _, _ => none
  | fu + 1, w2, w3, w4, x, K =>
  if (81 : Int32) ≤ w4 then
    K w2 w3 w4 x
  else
    nz_bnd (f_X7_choicesOf  w4 x) fun r5 x6 =>
    nz_bnd (f_X7_agreesWithSights  r5 x6) fun r8 x9 =>
    if r8 = (0 : Int32) then
      let v12 : Int32 := w4 + 1
      f_X7_rows_33 c1 fu w2 w3 v12 x9 K
    else
      let v13 : Int32 := w2 + 1
      if w3 = (-9 : Int32) then
        let v16 : Int32 := w4 + 1
        f_X7_rows_33 c1 fu v13 r5 v16 x9 K
      else
        let v15 : Int32 := w4 + 1
        f_X7_rows_33 c1 fu v13 w3 v15 x9 K
def f_X7_rows (a0 : Int32) (x : nz_S) : Option (Int32 × nz_S) :=
  if a0 < (0 : Int32) then
    some ((-2 : Int32), x)
  else
    if a0 ≤ (1 : Int32) then
      if (x.1 3 3) = (0 : Int32) then
        some ((-3 : Int32), x)
      else
        f_X7_rows_33 a0 nz_F (0 : Int32) (-9 : Int32) (0 : Int32) x fun u18 u19 u20 x17 =>
          if a0 = (0 : Int32) then
            some (u18, x17)
          else
            some (u19, x17)
    else
      some ((-2 : Int32), x)
theorem ds_X7_rows : nz_dsc yX7_rows 1 := by unfold nz_dsc; decide +kernel
set_option maxHeartbeats 4000000 in
set_option maxRecDepth 20000 in
theorem w_X7_rows_33 {κ : nz_C} {q : Nat → Nat} {o : Int32 × nz_S} (c1 : Int32) (E : nz_Env κ q nz_tK 6 cX7_rows RX7 (nz_T yX7_rows cX7_rows 6 (some .int)) (nz_R 3 68)) (hR : nz_RI κ q nz_tK .int o) : ∀ (fu : Nat) (w2 : Int32) (w3 : Int32) (w4 : Int32) (x : nz_S) (K : Int32 → Int32 → Int32 → nz_S → Option (Int32 × nz_S)), f_X7_rows_33 c1 fu w2 w3 w4 x K = some o → (∀ (w2 : Int32) (w3 : Int32) (w4 : Int32) (x : nz_S), K w2 w3 w4 x = some o → nz_St κ q nz_tK 6 78 [(0, .ref (q 0)), (1, .int c1), (2, .int w2), (3, .int w3), (4, .int w4)] [] x) → nz_St κ q nz_tK 6 33 [(0, .ref (q 0)), (1, .int c1), (2, .int w2), (3, .int w3), (4, .int w4)] [] x := by
  intro fu
  induction fu with
  | zero => intro w2 w3 w4 x K hf; rw [f_X7_rows_33] at hf; cases hf
  | succ fu ih =>
    intro w2 w3 w4 x K hf hK
    rw [f_X7_rows_33] at hf
    refine nz_iload (pc := 33) (i := 4) E dX7_rows_33 rfl ?_
    refine nz_bipush (pc := 35) (v := 81) E dX7_rows_35 (by decide) ?_
    refine nz_icmp_ge (pc := 37) (tgt := 78) E dX7_rows_37 (by decide) (fun h4 => ?_) (fun h4 => ?_)
    · have hf := nz_ite_t hf h4
      refine nz_weak (lv' := [(0, .ref (q 0)), (1, .int _), (2, .int _), (3, .int _), (4, .int _)]) ⟨rfl, rfl, rfl, rfl, rfl, trivial⟩ ?_
      exact hK _ _ _ _ hf
    · have hf := nz_ite_f hf h4
      refine nz_iload (pc := 40) (i := 4) E dX7_rows_40 rfl ?_
      obtain ⟨r5, x6, h7, hf⟩ := nz_bnd_t hf
      refine nz_callSI (pc := 42) (As := [.int _]) E (k_X7_choicesOf   _ _ _ h7) (nz_cwS E nz_w620 nz_w621 nz_w58 nz_w622 ds_X7_choicesOf ⟨Nat.le_of_ble_eq_true rfl, Nat.le_of_ble_eq_true rfl⟩ rfl rfl) rfl rfl (Nat.le_of_ble_eq_true rfl) dX7_rows_42 ?_
      refine nz_istore (pc := 45) (i := 5) E dX7_rows_45 (by decide) rfl ?_
      refine nz_aload_n (pc := 47) (i := 0) E dX7_rows_47 rfl rfl ?_
      refine nz_iload (pc := 48) (i := 5) E dX7_rows_48 rfl ?_
      obtain ⟨r8, x9, h10, hf⟩ := nz_bnd_t hf
      refine nz_callVI (pc := 50) (c0 := 0) (As := [.int _]) E rfl rfl (k_X7_agreesWithSights   _ _ _ h10) (nz_cwV E nz_w623 nz_w625 nz_w19 nz_w58 nz_w626 ds_X7_agreesWithSights ⟨Nat.le_of_ble_eq_true rfl, Nat.le_of_ble_eq_true rfl⟩ rfl rfl) rfl rfl (Nat.le_of_ble_eq_true rfl) dX7_rows_50 ?_
      refine nz_if_eq (pc := 53) (tgt := 72) E dX7_rows_53 (by decide) (fun h11 => ?_) (fun h11 => ?_)
      · have hf := nz_ite_t hf h11
        refine nz_iinc (pc := 72) (i := 4) (w := 1) E dX7_rows_72 rfl (by decide) (by decide) rfl ?_
        refine nz_goto (pc := 75) (tgt := 33) E dX7_rows_75 (by decide) ?_
        refine nz_weak (lv' := [(0, .ref (q 0)), (1, .int _), (2, .int _), (3, .int _), (4, .int _)]) ⟨rfl, rfl, rfl, rfl, rfl, trivial⟩ ?_
        exact ih _ _ _ _ _ hf hK
      · have hf := nz_ite_f hf h11
        refine nz_iinc (pc := 56) (i := 2) (w := 1) E dX7_rows_56 rfl (by decide) (by decide) rfl ?_
        refine nz_iload_n (pc := 59) (i := 3) E dX7_rows_59 rfl rfl ?_
        refine nz_bipush (pc := 60) (v := -9) E dX7_rows_60 (by decide) ?_
        refine nz_icmp_ne (pc := 62) (tgt := 70) E dX7_rows_62 (by decide) (fun h14 => ?_) (fun h14 => ?_)
        · have hf := nz_ite_f hf h14
          refine nz_iload_n (pc := 70) (i := 3) E dX7_rows_70 rfl rfl ?_
          refine nz_istore_n (pc := 71) (i := 3) E dX7_rows_71 rfl (by decide) rfl ?_
          refine nz_iinc (pc := 72) (i := 4) (w := 1) E dX7_rows_72 rfl (by decide) (by decide) rfl ?_
          refine nz_goto (pc := 75) (tgt := 33) E dX7_rows_75 (by decide) ?_
          refine nz_weak (lv' := [(0, .ref (q 0)), (1, .int _), (2, .int _), (3, .int _), (4, .int _)]) ⟨rfl, rfl, rfl, rfl, rfl, trivial⟩ ?_
          exact ih _ _ _ _ _ hf hK
        · have hf := nz_ite_t hf h14
          refine nz_iload (pc := 65) (i := 5) E dX7_rows_65 rfl ?_
          refine nz_goto (pc := 67) (tgt := 71) E dX7_rows_67 (by decide) ?_
          refine nz_istore_n (pc := 71) (i := 3) E dX7_rows_71 rfl (by decide) rfl ?_
          refine nz_iinc (pc := 72) (i := 4) (w := 1) E dX7_rows_72 rfl (by decide) (by decide) rfl ?_
          refine nz_goto (pc := 75) (tgt := 33) E dX7_rows_75 (by decide) ?_
          refine nz_weak (lv' := [(0, .ref (q 0)), (1, .int _), (2, .int _), (3, .int _), (4, .int _)]) ⟨rfl, rfl, rfl, rfl, rfl, trivial⟩ ?_
          exact ih _ _ _ _ _ hf hK
set_option maxHeartbeats 4000000 in
set_option maxRecDepth 20000 in
theorem k_X7_rows {l : Launch} {w : nz_O} {q : Nat → Nat} (a0 : Int32) (x : nz_S) (o : Int32 × nz_S) (hf : f_X7_rows a0 x = some o) : nz_MI l yX7_rows (nz_T yX7_rows cX7_rows 6 (some .int)) (nz_R 3 68) w q nz_tK [.ref (q 0), .int a0] x o := by
  refine nz_enterI (by decide) rfl (Nat.le_of_ble_eq_true rfl) rfl rfl ?_
  intro κ E hw hlq hR
  subst hw; subst hlq
  unfold f_X7_rows at hf
  refine nz_weak (lv' := [(0, .ref (q 0)), (1, .int a0)]) ⟨rfl, rfl, trivial⟩ ?_
  refine nz_iload_n (pc := 0) (i := 1) E dX7_rows_0 rfl rfl ?_
  refine nz_if_lt (pc := 1) (tgt := 9) E dX7_rows_1 (by decide) (fun h1 => ?_) (fun h1 => ?_)
  · have hf := nz_ite_t hf h1
    refine nz_bipush (pc := 9) (v := -2) E dX7_rows_9 (by decide) ?_
    exact nz_iret (pc := 11) E hR rfl hf dX7_rows_11
  · have hf := nz_ite_f hf h1
    refine nz_iload_n (pc := 4) (i := 1) E dX7_rows_4 rfl rfl ?_
    refine nz_iconst (pc := 5) (v := 1) E dX7_rows_5 (by decide) ?_
    refine nz_icmp_le (pc := 6) (tgt := 12) E dX7_rows_6 (by decide) (fun h2 => ?_) (fun h2 => ?_)
    · have hf := nz_ite_t hf h2
      refine nz_aload_n (pc := 12) (i := 0) E dX7_rows_12 rfl rfl ?_
      refine nz_getR (pc := 13) (c := 0) (kf := 1) E rfl rfl (nz_upT nz_uX7) (by decide) (List.mem_cons_of_mem _ nz_w249) rfl rfl dX7_rows_13 ?_
      refine nz_getNI (pc := 16) (c := 3) (kf := 3) E rfl rfl (nz_upT nz_uX0) (by decide) nz_n113 rfl rfl dX7_rows_16 ?_
      refine nz_if_ne (pc := 19) (tgt := 25) E dX7_rows_19 (by decide) (fun h3 => ?_) (fun h3 => ?_)
      · have hf := nz_ite_f hf h3
        refine nz_iconst (pc := 25) (v := 0) E dX7_rows_25 (by decide) ?_
        refine nz_istore_n (pc := 26) (i := 2) E dX7_rows_26 rfl (by decide) rfl ?_
        refine nz_bipush (pc := 27) (v := -9) E dX7_rows_27 (by decide) ?_
        refine nz_istore_n (pc := 29) (i := 3) E dX7_rows_29 rfl (by decide) rfl ?_
        refine nz_iconst (pc := 30) (v := 0) E dX7_rows_30 (by decide) ?_
        refine nz_istore (pc := 31) (i := 4) E dX7_rows_31 (by decide) rfl ?_
        refine nz_weak (lv' := [(0, .ref (q 0)), (1, .int _), (2, .int _), (3, .int _), (4, .int _)]) ⟨rfl, rfl, rfl, rfl, rfl, trivial⟩ ?_
        refine w_X7_rows_33 _ E hR _ _ _ _ _ _ hf (fun u18 u19 u20 x17 hf => ?_)
        refine nz_iload_n (pc := 78) (i := 1) E dX7_rows_78 rfl rfl ?_
        refine nz_if_ne (pc := 79) (tgt := 86) E dX7_rows_79 (by decide) (fun h21 => ?_) (fun h21 => ?_)
        · have hf := nz_ite_f hf h21
          refine nz_iload_n (pc := 86) (i := 3) E dX7_rows_86 rfl rfl ?_
          exact nz_iret (pc := 87) E hR rfl hf dX7_rows_87
        · have hf := nz_ite_t hf h21
          refine nz_iload_n (pc := 82) (i := 2) E dX7_rows_82 rfl rfl ?_
          refine nz_goto (pc := 83) (tgt := 87) E dX7_rows_83 (by decide) ?_
          exact nz_iret (pc := 87) E hR rfl hf dX7_rows_87
      · have hf := nz_ite_t hf h3
        refine nz_bipush (pc := 22) (v := -3) E dX7_rows_22 (by decide) ?_
        exact nz_iret (pc := 24) E hR rfl hf dX7_rows_24
    · have hf := nz_ite_f hf h2
      refine nz_bipush (pc := 9) (v := -2) E dX7_rows_9 (by decide) ?_
      exact nz_iret (pc := 11) E hR rfl hf dX7_rows_11
def f_X7_power_4 (c0 : Int32) (c1 : Int32) : Nat → Int32 → Int32 → nz_S → (Int32 → Int32 → nz_S → Option (Int32 × nz_S)) → Option (Int32 × nz_S)
  | 0, _, _, _, _ => none
  | fu + 1, w2, w3, x, K =>
  if c1 ≤ w3 then
    K w2 w3 x
  else
    let v2 : Int32 := (w2 * c0)
    let v3 : Int32 := w3 + 1
    f_X7_power_4 c0 c1 fu v2 v3 x K
def f_X7_power (a0 : Int32) (a1 : Int32) (x : nz_S) : Option (Int32 × nz_S) :=
  f_X7_power_4 a0 a1 nz_F (1 : Int32) (0 : Int32) x fun u5 u6 x4 =>
    some (u5, x4)
theorem ds_X7_power : nz_dsc yX7_power 2 := by unfold nz_dsc; decide +kernel
set_option maxHeartbeats 4000000 in
set_option maxRecDepth 20000 in
theorem w_X7_power_4 {κ : nz_C} {q : Nat → Nat} {o : Int32 × nz_S} (c0 : Int32) (c1 : Int32) (E : nz_Env κ q nz_tK 4 cX7_power RX7 (nz_T yX7_power cX7_power 4 (some .int)) (nz_R 0 0)) (hR : nz_RI κ q nz_tK .int o) : ∀ (fu : Nat) (w2 : Int32) (w3 : Int32) (x : nz_S) (K : Int32 → Int32 → nz_S → Option (Int32 × nz_S)), f_X7_power_4 c0 c1 fu w2 w3 x K = some o → (∀ (w2 : Int32) (w3 : Int32) (x : nz_S), K w2 w3 x = some o → nz_St κ q nz_tK 4 19 [(0, .int c0), (1, .int c1), (2, .int w2), (3, .int w3)] [] x) → nz_St κ q nz_tK 4 4 [(0, .int c0), (1, .int c1), (2, .int w2), (3, .int w3)] [] x := by
  intro fu
  induction fu with
  | zero => intro w2 w3 x K hf; rw [f_X7_power_4] at hf; cases hf
  | succ fu ih =>
    intro w2 w3 x K hf hK
    rw [f_X7_power_4] at hf
    refine nz_iload_n (pc := 4) (i := 3) E dX7_power_4 rfl rfl ?_
    refine nz_iload_n (pc := 5) (i := 1) E dX7_power_5 rfl rfl ?_
    refine nz_icmp_ge (pc := 6) (tgt := 19) E dX7_power_6 (by decide) (fun h1 => ?_) (fun h1 => ?_)
    · have hf := nz_ite_t hf h1
      refine nz_weak (lv' := [(0, .int _), (1, .int _), (2, .int _), (3, .int _)]) ⟨rfl, rfl, rfl, rfl, trivial⟩ ?_
      exact hK _ _ _ hf
    · have hf := nz_ite_f hf h1
      refine nz_iload_n (pc := 9) (i := 2) E dX7_power_9 rfl rfl ?_
      refine nz_iload_n (pc := 10) (i := 0) E dX7_power_10 rfl rfl ?_
      refine nz_imul (pc := 11) E dX7_power_11 ?_
      refine nz_istore_n (pc := 12) (i := 2) E dX7_power_12 rfl (by decide) rfl ?_
      refine nz_iinc (pc := 13) (i := 3) (w := 1) E dX7_power_13 rfl (by decide) (by decide) rfl ?_
      refine nz_goto (pc := 16) (tgt := 4) E dX7_power_16 (by decide) ?_
      refine nz_weak (lv' := [(0, .int _), (1, .int _), (2, .int _), (3, .int _)]) ⟨rfl, rfl, rfl, rfl, trivial⟩ ?_
      exact ih _ _ _ _ hf hK
set_option maxHeartbeats 4000000 in
set_option maxRecDepth 20000 in
theorem k_X7_power {l : Launch} {w : nz_O} {q : Nat → Nat} (a0 : Int32) (a1 : Int32) (x : nz_S) (o : Int32 × nz_S) (hf : f_X7_power a0 a1 x = some o) : nz_MI l yX7_power (nz_T yX7_power cX7_power 4 (some .int)) (nz_R 0 0) w q nz_tK [.int a0, .int a1] x o := by
  refine nz_enterI (by decide) rfl (Nat.le_of_ble_eq_true rfl) rfl rfl ?_
  intro κ E hw hlq hR
  subst hw; subst hlq
  unfold f_X7_power at hf
  refine nz_weak (lv' := [(0, .int a0), (1, .int a1)]) ⟨rfl, rfl, trivial⟩ ?_
  refine nz_iconst (pc := 0) (v := 1) E dX7_power_0 (by decide) ?_
  refine nz_istore_n (pc := 1) (i := 2) E dX7_power_1 rfl (by decide) rfl ?_
  refine nz_iconst (pc := 2) (v := 0) E dX7_power_2 (by decide) ?_
  refine nz_istore_n (pc := 3) (i := 3) E dX7_power_3 rfl (by decide) rfl ?_
  refine nz_weak (lv' := [(0, .int _), (1, .int _), (2, .int _), (3, .int _)]) ⟨rfl, rfl, rfl, rfl, trivial⟩ ?_
  refine w_X7_power_4 _ _ E hR _ _ _ _ _ hf (fun u5 u6 x4 hf => ?_)
  refine nz_iload_n (pc := 19) (i := 2) E dX7_power_19 rfl rfl ?_
  exact nz_iret (pc := 20) E hR rfl hf dX7_power_20
