def f_X8_depth_35 : Nat → Int32 → Int32 → nz_S → (Int32 → Int32 → nz_S → Option (Int32 × nz_S)) → Option (Int32 × nz_S)
  | 0, _, _, _, _ => none
  | fu + 1, w2, w3, x, K =>
  if w3 = (-9 : Int32) then
    K w2 w3 x
  else
    let v8 : Int32 := w2 + 1
    nz_chk (nz_in w3 12) <|
    let v10 : Int32 := (x.1 15 (w3).toNatClampNeg)
    f_X8_depth_35 fu v8 v10 x K
def f_X8_depth (a0 : Int32) (x : nz_S) : Option (Int32 × nz_S) :=
  nz_chk (nz_in a0 12) <|
  if (x.1 11 (a0).toNatClampNeg) = (-9 : Int32) then
    some ((0 : Int32), x)
  else
    nz_chk (nz_in a0 12) <|
    if (x.1 16 (a0).toNatClampNeg) ≤ (0 : Int32) then
      nz_chk (nz_in a0 12) <|
      let v6 : Int32 := (x.1 15 (a0).toNatClampNeg)
      f_X8_depth_35 nz_F (0 : Int32) v6 x fun u12 u13 x11 =>
        some (u12, x11)
    else
      nz_chk (nz_in a0 12) <|
      let v15 : Int32 := (x.1 15 (a0).toNatClampNeg)
      f_X8_depth_35 nz_F (1 : Int32) v15 x fun u17 u18 x16 =>
        some (u17, x16)
theorem ds_X8_depth : nz_dsc yX8_depth 1 := by unfold nz_dsc; decide +kernel
set_option maxHeartbeats 4000000 in
set_option maxRecDepth 20000 in
theorem w_X8_depth_35 {κ : nz_C} {q : Nat → Nat} {o : Int32 × nz_S} (E : nz_Env κ q nz_tM 4 cX8_depth RX8 (nz_T yX8_depth cX8_depth 4 (some .int)) (nz_R 0 0)) (hR : nz_RI κ q nz_tM .int o) : ∀ (fu : Nat) (w2 : Int32) (w3 : Int32) (x : nz_S) (K : Int32 → Int32 → nz_S → Option (Int32 × nz_S)), f_X8_depth_35 fu w2 w3 x K = some o → (∀ (w2 : Int32) (w3 : Int32) (x : nz_S), K w2 w3 x = some o → nz_St κ q nz_tM 4 54 [(0, .ref (q 0)), (2, .int w2), (3, .int w3)] [] x) → nz_St κ q nz_tM 4 35 [(0, .ref (q 0)), (2, .int w2), (3, .int w3)] [] x := by
  intro fu
  induction fu with
  | zero => intro w2 w3 x K hf; rw [f_X8_depth_35] at hf; cases hf
  | succ fu ih =>
    intro w2 w3 x K hf hK
    rw [f_X8_depth_35] at hf
    refine nz_iload_n (pc := 35) (i := 3) E dX8_depth_35 rfl rfl ?_
    refine nz_bipush (pc := 36) (v := -9) E dX8_depth_36 (by decide) ?_
    refine nz_icmp_eq (pc := 38) (tgt := 54) E dX8_depth_38 (by decide) (fun h7 => ?_) (fun h7 => ?_)
    · have hf := nz_ite_t hf h7
      refine nz_weak (lv' := [(0, .ref (q 0)), (2, .int _), (3, .int _)]) ⟨rfl, rfl, rfl, trivial⟩ ?_
      exact hK _ _ _ hf
    · have hf := nz_ite_f hf h7
      refine nz_iinc (pc := 41) (i := 2) (w := 1) E dX8_depth_41 rfl (by decide) (by decide) rfl ?_
      refine nz_aload_n (pc := 44) (i := 0) E dX8_depth_44 rfl rfl ?_
      refine nz_getR (pc := 45) (c := 0) (kf := 21) E rfl rfl (nz_upT nz_uX8) (by decide) (List.mem_cons_of_mem _ nz_w697) rfl rfl dX8_depth_45 ?_
      refine nz_iload_n (pc := 48) (i := 3) E dX8_depth_48 rfl rfl ?_
      obtain ⟨h9, hf⟩ := nz_chk_t hf
      refine nz_iald (pc := 49) (c := 15) E rfl h9 dX8_depth_49 ?_
      refine nz_istore_n (pc := 50) (i := 3) E dX8_depth_50 rfl (by decide) rfl ?_
      refine nz_goto (pc := 51) (tgt := 35) E dX8_depth_51 (by decide) ?_
      refine nz_weak (lv' := [(0, .ref (q 0)), (2, .int _), (3, .int _)]) ⟨rfl, rfl, rfl, trivial⟩ ?_
      exact ih _ _ _ _ hf hK
set_option maxHeartbeats 4000000 in
set_option maxRecDepth 20000 in
theorem k_X8_depth {l : Launch} {w : nz_O} {q : Nat → Nat} (a0 : Int32) (x : nz_S) (o : Int32 × nz_S) (hf : f_X8_depth a0 x = some o) : nz_MI l yX8_depth (nz_T yX8_depth cX8_depth 4 (some .int)) (nz_R 0 0) w q nz_tM [.ref (q 0), .int a0] x o := by
  refine nz_enterI (by decide) rfl (Nat.le_of_ble_eq_true rfl) rfl rfl ?_
  intro κ E hw hlq hR
  subst hw; subst hlq
  unfold f_X8_depth at hf
  refine nz_weak (lv' := [(0, .ref (q 0)), (1, .int a0)]) ⟨rfl, rfl, trivial⟩ ?_
  refine nz_aload_n (pc := 0) (i := 0) E dX8_depth_0 rfl rfl ?_
  refine nz_getR (pc := 1) (c := 0) (kf := 17) E rfl rfl (nz_upT nz_uX8) (by decide) (List.mem_cons_of_mem _ nz_w693) rfl rfl dX8_depth_1 ?_
  refine nz_iload_n (pc := 4) (i := 1) E dX8_depth_4 rfl rfl ?_
  obtain ⟨h1, hf⟩ := nz_chk_t hf
  refine nz_iald (pc := 5) (c := 11) E rfl h1 dX8_depth_5 ?_
  refine nz_bipush (pc := 6) (v := -9) E dX8_depth_6 (by decide) ?_
  refine nz_icmp_ne (pc := 8) (tgt := 13) E dX8_depth_8 (by decide) (fun h2 => ?_) (fun h2 => ?_)
  · have hf := nz_ite_f hf h2
    refine nz_aload_n (pc := 13) (i := 0) E dX8_depth_13 rfl rfl ?_
    refine nz_getR (pc := 14) (c := 0) (kf := 22) E rfl rfl (nz_upT nz_uX8) (by decide) (List.mem_cons_of_mem _ nz_w698) rfl rfl dX8_depth_14 ?_
    refine nz_iload_n (pc := 17) (i := 1) E dX8_depth_17 rfl rfl ?_
    obtain ⟨h3, hf⟩ := nz_chk_t hf
    refine nz_iald (pc := 18) (c := 16) E rfl h3 dX8_depth_18 ?_
    refine nz_if_le (pc := 19) (tgt := 26) E dX8_depth_19 (by decide) (fun h4 => ?_) (fun h4 => ?_)
    · have hf := nz_ite_t hf h4
      refine nz_iconst (pc := 26) (v := 0) E dX8_depth_26 (by decide) ?_
      refine nz_istore_n (pc := 27) (i := 2) E dX8_depth_27 rfl (by decide) rfl ?_
      refine nz_aload_n (pc := 28) (i := 0) E dX8_depth_28 rfl rfl ?_
      refine nz_getR (pc := 29) (c := 0) (kf := 21) E rfl rfl (nz_upT nz_uX8) (by decide) (List.mem_cons_of_mem _ nz_w697) rfl rfl dX8_depth_29 ?_
      refine nz_iload_n (pc := 32) (i := 1) E dX8_depth_32 rfl rfl ?_
      obtain ⟨h5, hf⟩ := nz_chk_t hf
      refine nz_iald (pc := 33) (c := 15) E rfl h5 dX8_depth_33 ?_
      refine nz_istore_n (pc := 34) (i := 3) E dX8_depth_34 rfl (by decide) rfl ?_
      refine nz_weak (lv' := [(0, .ref (q 0)), (2, .int _), (3, .int _)]) ⟨rfl, rfl, rfl, trivial⟩ ?_
      refine w_X8_depth_35 E hR _ _ _ _ _ hf (fun u12 u13 x11 hf => ?_)
      refine nz_iload_n (pc := 54) (i := 2) E dX8_depth_54 rfl rfl ?_
      exact nz_iret (pc := 55) E hR rfl hf dX8_depth_55
    · have hf := nz_ite_f hf h4
      refine nz_iconst (pc := 22) (v := 1) E dX8_depth_22 (by decide) ?_
      refine nz_goto (pc := 23) (tgt := 27) E dX8_depth_23 (by decide) ?_
      refine nz_istore_n (pc := 27) (i := 2) E dX8_depth_27 rfl (by decide) rfl ?_
      refine nz_aload_n (pc := 28) (i := 0) E dX8_depth_28 rfl rfl ?_
      refine nz_getR (pc := 29) (c := 0) (kf := 21) E rfl rfl (nz_upT nz_uX8) (by decide) (List.mem_cons_of_mem _ nz_w697) rfl rfl dX8_depth_29 ?_
      refine nz_iload_n (pc := 32) (i := 1) E dX8_depth_32 rfl rfl ?_
      obtain ⟨h14, hf⟩ := nz_chk_t hf
      refine nz_iald (pc := 33) (c := 15) E rfl h14 dX8_depth_33 ?_
      refine nz_istore_n (pc := 34) (i := 3) E dX8_depth_34 rfl (by decide) rfl ?_
      refine nz_weak (lv' := [(0, .ref (q 0)), (2, .int _), (3, .int _)]) ⟨rfl, rfl, rfl, trivial⟩ ?_
      refine w_X8_depth_35 E hR _ _ _ _ _ hf (fun u17 u18 x16 hf => ?_)
      refine nz_iload_n (pc := 54) (i := 2) E dX8_depth_54 rfl rfl ?_
      exact nz_iret (pc := 55) E hR rfl hf dX8_depth_55
  · have hf := nz_ite_t hf h2
    refine nz_iconst (pc := 11) (v := 0) E dX8_depth_11 (by decide) ?_
    exact nz_iret (pc := 12) E hR rfl hf dX8_depth_12
def f_X8_nest_15 (c3 : Int32) : Nat → Int32 → Int32 → nz_S → (Int32 → Int32 → nz_S → Option (Int32 × nz_S)) → Option (Int32 × nz_S)
  | 0, _, _, _, _ => none
  | fu + 1, w2, w4, x, K =>
  if (12 : Int32) ≤ w4 then
    K w2 w4 x
  else
    nz_chk (nz_in w4 12) <|
    if (x.1 15 (w4).toNatClampNeg) = (-9 : Int32) then
      let v6 : Int32 := (w2 ||| (0 : Int32))
      let v7 : Int32 := w4 + 1
      f_X8_nest_15 c3 fu v6 v7 x K
    else
      nz_chk (nz_in w4 12) <|
      nz_bnd (f_X8_has  w2 (x.1 15 (w4).toNatClampNeg) x) fun r9 x10 =>
      if r9 = (0 : Int32) then
        let v13 : Int32 := (w2 ||| (0 : Int32))
        let v14 : Int32 := w4 + 1
        f_X8_nest_15 c3 fu v13 v14 x10 K
      else
        let v15 : Int32 := (w2 ||| ((1 : Int32) <<< (w4 &&& 31)))
        let v16 : Int32 := w4 + 1
        f_X8_nest_15 c3 fu v15 v16 x10 K
def f_X8_nest_6 : Nat → Int32 → Int32 → nz_S → (Int32 → Int32 → nz_S → Option (Int32 × nz_S)) → Option (Int32 × nz_S)
  | 0, _, _, _, _ => none
  | fu + 1, w2, w3, x, K =>
  if (12 : Int32) ≤ w3 then
    K w2 w3 x
  else
    f_X8_nest_15 w3 nz_F w2 (0 : Int32) x fun u18 u19 x17 =>
      let v20 : Int32 := w3 + 1
      f_X8_nest_6 fu u18 v20 x17 K
def f_X8_nest (a0 : Int32) (x : nz_S) : Option (Int32 × nz_S) :=
  let v1 : Int32 := ((1 : Int32) <<< (a0 &&& 31))
  f_X8_nest_6 nz_F v1 (0 : Int32) x fun u22 u23 x21 =>
    some (u22, x21)
theorem ds_X8_nest : nz_dsc yX8_nest 1 := by unfold nz_dsc; decide +kernel
set_option maxHeartbeats 4000000 in
set_option maxRecDepth 20000 in
theorem w_X8_nest_15 {κ : nz_C} {q : Nat → Nat} {o : Int32 × nz_S} (c3 : Int32) (E : nz_Env κ q nz_tM 5 cX8_nest RX8 (nz_T yX8_nest cX8_nest 5 (some .int)) (nz_R 1 21)) (hR : nz_RI κ q nz_tM .int o) : ∀ (fu : Nat) (w2 : Int32) (w4 : Int32) (x : nz_S) (K : Int32 → Int32 → nz_S → Option (Int32 × nz_S)), f_X8_nest_15 c3 fu w2 w4 x K = some o → (∀ (w2 : Int32) (w4 : Int32) (x : nz_S), K w2 w4 x = some o → nz_St κ q nz_tM 5 65 [(0, .ref (q 0)), (2, .int w2), (3, .int c3), (4, .int w4)] [] x) → nz_St κ q nz_tM 5 15 [(0, .ref (q 0)), (2, .int w2), (3, .int c3), (4, .int w4)] [] x := by
  intro fu
  induction fu with
  | zero => intro w2 w4 x K hf; rw [f_X8_nest_15] at hf; cases hf
  | succ fu ih =>
    intro w2 w4 x K hf hK
    rw [f_X8_nest_15] at hf
    refine nz_iload (pc := 15) (i := 4) E dX8_nest_15 rfl ?_
    refine nz_bipush (pc := 17) (v := 12) E dX8_nest_17 (by decide) ?_
    refine nz_icmp_ge (pc := 19) (tgt := 65) E dX8_nest_19 (by decide) (fun h3 => ?_) (fun h3 => ?_)
    · have hf := nz_ite_t hf h3
      refine nz_weak (lv' := [(0, .ref (q 0)), (2, .int _), (3, .int _), (4, .int _)]) ⟨rfl, rfl, rfl, rfl, trivial⟩ ?_
      exact hK _ _ _ hf
    · have hf := nz_ite_f hf h3
      refine nz_iload_n (pc := 22) (i := 2) E dX8_nest_22 rfl rfl ?_
      refine nz_aload_n (pc := 23) (i := 0) E dX8_nest_23 rfl rfl ?_
      refine nz_getR (pc := 24) (c := 0) (kf := 21) E rfl rfl (nz_upT nz_uX8) (by decide) (List.mem_cons_of_mem _ nz_w697) rfl rfl dX8_nest_24 ?_
      refine nz_iload (pc := 27) (i := 4) E dX8_nest_27 rfl ?_
      obtain ⟨h4, hf⟩ := nz_chk_t hf
      refine nz_iald (pc := 29) (c := 15) E rfl h4 dX8_nest_29 ?_
      refine nz_bipush (pc := 30) (v := -9) E dX8_nest_30 (by decide) ?_
      refine nz_icmp_eq (pc := 32) (tgt := 56) E dX8_nest_32 (by decide) (fun h5 => ?_) (fun h5 => ?_)
      · have hf := nz_ite_t hf h5
        refine nz_iconst (pc := 56) (v := 0) E dX8_nest_56 (by decide) ?_
        refine nz_ior (pc := 57) E dX8_nest_57 ?_
        refine nz_istore_n (pc := 58) (i := 2) E dX8_nest_58 rfl (by decide) rfl ?_
        refine nz_iinc (pc := 59) (i := 4) (w := 1) E dX8_nest_59 rfl (by decide) (by decide) rfl ?_
        refine nz_goto (pc := 62) (tgt := 15) E dX8_nest_62 (by decide) ?_
        refine nz_weak (lv' := [(0, .ref (q 0)), (2, .int _), (3, .int _), (4, .int _)]) ⟨rfl, rfl, rfl, rfl, trivial⟩ ?_
        exact ih _ _ _ _ hf hK
      · have hf := nz_ite_f hf h5
        refine nz_iload_n (pc := 35) (i := 2) E dX8_nest_35 rfl rfl ?_
        refine nz_aload_n (pc := 36) (i := 0) E dX8_nest_36 rfl rfl ?_
        refine nz_getR (pc := 37) (c := 0) (kf := 21) E rfl rfl (nz_upT nz_uX8) (by decide) (List.mem_cons_of_mem _ nz_w697) rfl rfl dX8_nest_37 ?_
        refine nz_iload (pc := 40) (i := 4) E dX8_nest_40 rfl ?_
        obtain ⟨h8, hf⟩ := nz_chk_t hf
        refine nz_iald (pc := 42) (c := 15) E rfl h8 dX8_nest_42 ?_
        obtain ⟨r9, x10, h11, hf⟩ := nz_bnd_t hf
        refine nz_callSI (pc := 43) (As := [.int _, .int _]) E (k_X8_has   _ _ _ _ h11) (nz_cwS E nz_w831 nz_w832 nz_w67 nz_w833 ds_X8_has ⟨Nat.le_of_ble_eq_true rfl, Nat.le_of_ble_eq_true rfl⟩ rfl rfl) rfl rfl (Nat.le_of_ble_eq_true rfl) dX8_nest_43 ?_
        refine nz_if_eq (pc := 46) (tgt := 56) E dX8_nest_46 (by decide) (fun h12 => ?_) (fun h12 => ?_)
        · have hf := nz_ite_t hf h12
          refine nz_iconst (pc := 56) (v := 0) E dX8_nest_56 (by decide) ?_
          refine nz_ior (pc := 57) E dX8_nest_57 ?_
          refine nz_istore_n (pc := 58) (i := 2) E dX8_nest_58 rfl (by decide) rfl ?_
          refine nz_iinc (pc := 59) (i := 4) (w := 1) E dX8_nest_59 rfl (by decide) (by decide) rfl ?_
          refine nz_goto (pc := 62) (tgt := 15) E dX8_nest_62 (by decide) ?_
          refine nz_weak (lv' := [(0, .ref (q 0)), (2, .int _), (3, .int _), (4, .int _)]) ⟨rfl, rfl, rfl, rfl, trivial⟩ ?_
          exact ih _ _ _ _ hf hK
        · have hf := nz_ite_f hf h12
          refine nz_iconst (pc := 49) (v := 1) E dX8_nest_49 (by decide) ?_
          refine nz_iload (pc := 50) (i := 4) E dX8_nest_50 rfl ?_
          refine nz_ishl (pc := 52) E dX8_nest_52 ?_
          refine nz_goto (pc := 53) (tgt := 57) E dX8_nest_53 (by decide) ?_
          refine nz_ior (pc := 57) E dX8_nest_57 ?_
          refine nz_istore_n (pc := 58) (i := 2) E dX8_nest_58 rfl (by decide) rfl ?_
          refine nz_iinc (pc := 59) (i := 4) (w := 1) E dX8_nest_59 rfl (by decide) (by decide) rfl ?_
          refine nz_goto (pc := 62) (tgt := 15) E dX8_nest_62 (by decide) ?_
          refine nz_weak (lv' := [(0, .ref (q 0)), (2, .int _), (3, .int _), (4, .int _)]) ⟨rfl, rfl, rfl, rfl, trivial⟩ ?_
          exact ih _ _ _ _ hf hK
set_option maxHeartbeats 4000000 in
set_option maxRecDepth 20000 in
theorem w_X8_nest_6 {κ : nz_C} {q : Nat → Nat} {o : Int32 × nz_S} (E : nz_Env κ q nz_tM 5 cX8_nest RX8 (nz_T yX8_nest cX8_nest 5 (some .int)) (nz_R 1 21)) (hR : nz_RI κ q nz_tM .int o) : ∀ (fu : Nat) (w2 : Int32) (w3 : Int32) (x : nz_S) (K : Int32 → Int32 → nz_S → Option (Int32 × nz_S)), f_X8_nest_6 fu w2 w3 x K = some o → (∀ (w2 : Int32) (w3 : Int32) (x : nz_S), K w2 w3 x = some o → nz_St κ q nz_tM 5 71 [(0, .ref (q 0)), (2, .int w2), (3, .int w3)] [] x) → nz_St κ q nz_tM 5 6 [(0, .ref (q 0)), (2, .int w2), (3, .int w3)] [] x := by
  intro fu
  induction fu with
  | zero => intro w2 w3 x K hf; rw [f_X8_nest_6] at hf; cases hf
  | succ fu ih =>
    intro w2 w3 x K hf hK
    rw [f_X8_nest_6] at hf
    refine nz_iload_n (pc := 6) (i := 3) E dX8_nest_6 rfl rfl ?_
    refine nz_bipush (pc := 7) (v := 12) E dX8_nest_7 (by decide) ?_
    refine nz_icmp_ge (pc := 9) (tgt := 71) E dX8_nest_9 (by decide) (fun h2 => ?_) (fun h2 => ?_)
    · have hf := nz_ite_t hf h2
      refine nz_weak (lv' := [(0, .ref (q 0)), (2, .int _), (3, .int _)]) ⟨rfl, rfl, rfl, trivial⟩ ?_
      exact hK _ _ _ hf
    · have hf := nz_ite_f hf h2
      refine nz_iconst (pc := 12) (v := 0) E dX8_nest_12 (by decide) ?_
      refine nz_istore (pc := 13) (i := 4) E dX8_nest_13 (by decide) rfl ?_
      refine nz_weak (lv' := [(0, .ref (q 0)), (2, .int _), (3, .int _), (4, .int _)]) ⟨rfl, rfl, rfl, rfl, trivial⟩ ?_
      refine w_X8_nest_15 _ E hR _ _ _ _ _ hf (fun u18 u19 x17 hf => ?_)
      refine nz_iinc (pc := 65) (i := 3) (w := 1) E dX8_nest_65 rfl (by decide) (by decide) rfl ?_
      refine nz_goto (pc := 68) (tgt := 6) E dX8_nest_68 (by decide) ?_
      refine nz_weak (lv' := [(0, .ref (q 0)), (2, .int _), (3, .int _)]) ⟨rfl, rfl, rfl, trivial⟩ ?_
      exact ih _ _ _ _ hf hK
set_option maxHeartbeats 4000000 in
set_option maxRecDepth 20000 in
theorem k_X8_nest {l : Launch} {w : nz_O} {q : Nat → Nat} (a0 : Int32) (x : nz_S) (o : Int32 × nz_S) (hf : f_X8_nest a0 x = some o) : nz_MI l yX8_nest (nz_T yX8_nest cX8_nest 5 (some .int)) (nz_R 1 21) w q nz_tM [.ref (q 0), .int a0] x o := by
  refine nz_enterI (by decide) rfl (Nat.le_of_ble_eq_true rfl) rfl rfl ?_
  intro κ E hw hlq hR
  subst hw; subst hlq
  unfold f_X8_nest at hf
  refine nz_weak (lv' := [(0, .ref (q 0)), (1, .int a0)]) ⟨rfl, rfl, trivial⟩ ?_
  refine nz_iconst (pc := 0) (v := 1) E dX8_nest_0 (by decide) ?_
  refine nz_iload_n (pc := 1) (i := 1) E dX8_nest_1 rfl rfl ?_
  refine nz_ishl (pc := 2) E dX8_nest_2 ?_
  refine nz_istore_n (pc := 3) (i := 2) E dX8_nest_3 rfl (by decide) rfl ?_
  refine nz_iconst (pc := 4) (v := 0) E dX8_nest_4 (by decide) ?_
  refine nz_istore_n (pc := 5) (i := 3) E dX8_nest_5 rfl (by decide) rfl ?_
  refine nz_weak (lv' := [(0, .ref (q 0)), (2, .int _), (3, .int _)]) ⟨rfl, rfl, rfl, trivial⟩ ?_
  refine w_X8_nest_6 E hR _ _ _ _ _ hf (fun u22 u23 x21 hf => ?_)
  refine nz_iload_n (pc := 71) (i := 2) E dX8_nest_71 rfl rfl ?_
  exact nz_iret (pc := 72) E hR rfl hf dX8_nest_72
def f_X8_reached_38 (p : Nat) (c1 : Int32) (c3 : Int32) (c4 : Int32) : Nat → Int32 → Int32 → nz_S → (Int32 → Int32 → nz_S → Option (Int32 × nz_S)) → Option (Int32 × nz_S)
  | 0, _, _, _, _ => none
  | fu + 1, w2, w5, x, K =>
  nz_bnd (f_X8_has  w2 c4 x) fun r6 x7 =>
  if r6 = (0 : Int32) then
    K w2 w5 x7
  else
    let v10 : Int32 := ((13 : Int32) + c4)
    nz_chk (nz_in v10 61) <|
    if (x7.1 p (v10).toNatClampNeg) ≤ w5 then
      K w2 w5 x7
    else
      let v13 : Int32 := (((25 : Int32) + ((3 : Int32) * c4)) + w5)
      nz_chk (nz_in v13 61) <|
      let v15 : Int32 := (x7.1 p (v13).toNatClampNeg)
      if v15 = c1 then
        let v19 : Int32 := (w2 ||| (0 : Int32))
        let v20 : Int32 := w5 + 1
        f_X8_reached_38 p c1 c3 c4 fu v19 v20 x7 K
      else
        let v17 : Int32 := (w2 ||| ((1 : Int32) <<< (v15 &&& 31)))
        let v18 : Int32 := w5 + 1
        f_X8_reached_38 p c1 c3 c4 fu v17 v18 x7 K
def f_X8_reached_27 (p : Nat) (c1 : Int32) (c3 : Int32) : Nat → Int32 → Int32 → nz_S → (Int32 → Int32 → nz_S → Option (Int32 × nz_S)) → Option (Int32 × nz_S)
  | 0, _, _, _, _ => none
  | fu + 1, w2, w4, x, K =>
  nz_chk (nz_in (0 : Int32) 61) <|
  if (x.1 p ((0 : Int32)).toNatClampNeg) ≤ w4 then
    K w2 w4 x
  else
    f_X8_reached_38 p c1 c3 w4 nz_F w2 (0 : Int32) x fun u22 u23 x21 =>
      let v24 : Int32 := w4 + 1
      f_X8_reached_27 p c1 c3 fu u22 v24 x21 K
def f_X8_reached_18 (p : Nat) (c1 : Int32) : Nat → Int32 → Int32 → nz_S → (Int32 → Int32 → nz_S → Option (Int32 × nz_S)) → Option (Int32 × nz_S)
  | 0, _, _, _, _ => none
  | fu + 1, w2, w3, x, K =>
  if (12 : Int32) ≤ w3 then
    K w2 w3 x
  else
    f_X8_reached_27 p c1 w3 nz_F w2 (0 : Int32) x fun u26 u27 x25 =>
      let v28 : Int32 := w3 + 1
      f_X8_reached_18 p c1 fu u26 v28 x25 K
def f_X8_reached (p : Nat) (a0 : Int32) (x : nz_S) : Option (Int32 × nz_S) :=
  nz_chk (nz_in (0 : Int32) 61) <|
  if (x.1 p ((0 : Int32)).toNatClampNeg) = (0 : Int32) then
    f_X8_reached_18 p a0 nz_F (0 : Int32) (0 : Int32) x fun u30 u31 x29 =>
      some (u30, x29)
  else
    if a0 = (0 : Int32) then
      f_X8_reached_18 p a0 nz_F (0 : Int32) (0 : Int32) x fun u37 u38 x36 =>
        some (u37, x36)
    else
      f_X8_reached_18 p a0 nz_F (1 : Int32) (0 : Int32) x fun u34 u35 x33 =>
        some (u34, x33)
theorem ds_X8_reached : nz_dsc yX8_reached 2 := by unfold nz_dsc; decide +kernel
set_option maxHeartbeats 4000000 in
set_option maxRecDepth 20000 in
theorem w_X8_reached_38 {κ : nz_C} {q : Nat → Nat} {o : Int32 × nz_S} (p : Nat) (hp : nz_isP p) (c1 : Int32) (c3 : Int32) (c4 : Int32) (E : nz_Env κ q nz_tM 7 cX8_reached RX8 (nz_T yX8_reached cX8_reached 7 (some .int)) (nz_R 1 21)) (hR : nz_RI κ q nz_tM .int o) : ∀ (fu : Nat) (w2 : Int32) (w5 : Int32) (x : nz_S) (K : Int32 → Int32 → nz_S → Option (Int32 × nz_S)), f_X8_reached_38 p c1 c3 c4 fu w2 w5 x K = some o → (∀ (w2 : Int32) (w5 : Int32) (x : nz_S), K w2 w5 x = some o → nz_St κ q nz_tM 7 96 [(0, .ref (q p)), (1, .int c1), (2, .int w2), (3, .int c3), (4, .int c4), (5, .int w5)] [] x) → nz_St κ q nz_tM 7 38 [(0, .ref (q p)), (1, .int c1), (2, .int w2), (3, .int c3), (4, .int c4), (5, .int w5)] [] x := by
  intro fu
  induction fu with
  | zero => intro w2 w5 x K hf; rw [f_X8_reached_38] at hf; cases hf
  | succ fu ih =>
    intro w2 w5 x K hf hK
    rw [f_X8_reached_38] at hf
    refine nz_iload_n (pc := 38) (i := 2) E dX8_reached_38 rfl rfl ?_
    refine nz_iload (pc := 39) (i := 4) E dX8_reached_39 rfl ?_
    obtain ⟨r6, x7, h8, hf⟩ := nz_bnd_t hf
    refine nz_callSI (pc := 41) (As := [.int _, .int _]) E (k_X8_has   _ _ _ _ h8) (nz_cwS E nz_w831 nz_w832 nz_w67 nz_w833 ds_X8_has ⟨Nat.le_of_ble_eq_true rfl, Nat.le_of_ble_eq_true rfl⟩ rfl rfl) rfl rfl (Nat.le_of_ble_eq_true rfl) dX8_reached_41 ?_
    refine nz_if_eq (pc := 44) (tgt := 96) E dX8_reached_44 (by decide) (fun h9 => ?_) (fun h9 => ?_)
    · have hf := nz_ite_t hf h9
      refine nz_weak (lv' := [(0, .ref (q p)), (1, .int _), (2, .int _), (3, .int _), (4, .int _), (5, .int _)]) ⟨rfl, rfl, rfl, rfl, rfl, rfl, trivial⟩ ?_
      exact hK _ _ _ hf
    · have hf := nz_ite_f hf h9
      refine nz_iload (pc := 47) (i := 5) E dX8_reached_47 rfl ?_
      refine nz_aload_n (pc := 49) (i := 0) E dX8_reached_49 rfl rfl ?_
      refine nz_bipush (pc := 50) (v := 13) E dX8_reached_50 (by decide) ?_
      refine nz_iload (pc := 52) (i := 4) E dX8_reached_52 rfl ?_
      refine nz_iadd (pc := 54) E dX8_reached_54 ?_
      obtain ⟨h11, hf⟩ := nz_chk_t hf
      refine nz_iald (pc := 55) (c := p) E hp h11 dX8_reached_55 ?_
      refine nz_icmp_ge (pc := 56) (tgt := 96) E dX8_reached_56 (by decide) (fun h12 => ?_) (fun h12 => ?_)
      · have hf := nz_ite_t hf h12
        refine nz_weak (lv' := [(0, .ref (q p)), (1, .int _), (2, .int _), (3, .int _), (4, .int _), (5, .int _)]) ⟨rfl, rfl, rfl, rfl, rfl, rfl, trivial⟩ ?_
        exact hK _ _ _ hf
      · have hf := nz_ite_f hf h12
        refine nz_aload_n (pc := 59) (i := 0) E dX8_reached_59 rfl rfl ?_
        refine nz_bipush (pc := 60) (v := 25) E dX8_reached_60 (by decide) ?_
        refine nz_iconst (pc := 62) (v := 3) E dX8_reached_62 (by decide) ?_
        refine nz_iload (pc := 63) (i := 4) E dX8_reached_63 rfl ?_
        refine nz_imul (pc := 65) E dX8_reached_65 ?_
        refine nz_iadd (pc := 66) E dX8_reached_66 ?_
        refine nz_iload (pc := 67) (i := 5) E dX8_reached_67 rfl ?_
        refine nz_iadd (pc := 69) E dX8_reached_69 ?_
        obtain ⟨h14, hf⟩ := nz_chk_t hf
        refine nz_iald (pc := 70) (c := p) E hp h14 dX8_reached_70 ?_
        refine nz_istore (pc := 71) (i := 6) E dX8_reached_71 (by decide) rfl ?_
        refine nz_iload_n (pc := 73) (i := 2) E dX8_reached_73 rfl rfl ?_
        refine nz_iload (pc := 74) (i := 6) E dX8_reached_74 rfl ?_
        refine nz_iload_n (pc := 76) (i := 1) E dX8_reached_76 rfl rfl ?_
        refine nz_icmp_ne (pc := 77) (tgt := 84) E dX8_reached_77 (by decide) (fun h16 => ?_) (fun h16 => ?_)
        · have hf := nz_ite_f hf h16
          refine nz_iconst (pc := 84) (v := 1) E dX8_reached_84 (by decide) ?_
          refine nz_iload (pc := 85) (i := 6) E dX8_reached_85 rfl ?_
          refine nz_ishl (pc := 87) E dX8_reached_87 ?_
          refine nz_ior (pc := 88) E dX8_reached_88 ?_
          refine nz_istore_n (pc := 89) (i := 2) E dX8_reached_89 rfl (by decide) rfl ?_
          refine nz_iinc (pc := 90) (i := 5) (w := 1) E dX8_reached_90 rfl (by decide) (by decide) rfl ?_
          refine nz_goto (pc := 93) (tgt := 38) E dX8_reached_93 (by decide) ?_
          refine nz_weak (lv' := [(0, .ref (q p)), (1, .int _), (2, .int _), (3, .int _), (4, .int _), (5, .int _)]) ⟨rfl, rfl, rfl, rfl, rfl, rfl, trivial⟩ ?_
          exact ih _ _ _ _ hf hK
        · have hf := nz_ite_t hf h16
          refine nz_iconst (pc := 80) (v := 0) E dX8_reached_80 (by decide) ?_
          refine nz_goto (pc := 81) (tgt := 88) E dX8_reached_81 (by decide) ?_
          refine nz_ior (pc := 88) E dX8_reached_88 ?_
          refine nz_istore_n (pc := 89) (i := 2) E dX8_reached_89 rfl (by decide) rfl ?_
          refine nz_iinc (pc := 90) (i := 5) (w := 1) E dX8_reached_90 rfl (by decide) (by decide) rfl ?_
          refine nz_goto (pc := 93) (tgt := 38) E dX8_reached_93 (by decide) ?_
          refine nz_weak (lv' := [(0, .ref (q p)), (1, .int _), (2, .int _), (3, .int _), (4, .int _), (5, .int _)]) ⟨rfl, rfl, rfl, rfl, rfl, rfl, trivial⟩ ?_
          exact ih _ _ _ _ hf hK
set_option maxHeartbeats 4000000 in
set_option maxRecDepth 20000 in
theorem w_X8_reached_27 {κ : nz_C} {q : Nat → Nat} {o : Int32 × nz_S} (p : Nat) (hp : nz_isP p) (c1 : Int32) (c3 : Int32) (E : nz_Env κ q nz_tM 7 cX8_reached RX8 (nz_T yX8_reached cX8_reached 7 (some .int)) (nz_R 1 21)) (hR : nz_RI κ q nz_tM .int o) : ∀ (fu : Nat) (w2 : Int32) (w4 : Int32) (x : nz_S) (K : Int32 → Int32 → nz_S → Option (Int32 × nz_S)), f_X8_reached_27 p c1 c3 fu w2 w4 x K = some o → (∀ (w2 : Int32) (w4 : Int32) (x : nz_S), K w2 w4 x = some o → nz_St κ q nz_tM 7 102 [(0, .ref (q p)), (1, .int c1), (2, .int w2), (3, .int c3), (4, .int w4)] [] x) → nz_St κ q nz_tM 7 27 [(0, .ref (q p)), (1, .int c1), (2, .int w2), (3, .int c3), (4, .int w4)] [] x := by
  intro fu
  induction fu with
  | zero => intro w2 w4 x K hf; rw [f_X8_reached_27] at hf; cases hf
  | succ fu ih =>
    intro w2 w4 x K hf hK
    rw [f_X8_reached_27] at hf
    refine nz_iload (pc := 27) (i := 4) E dX8_reached_27 rfl ?_
    refine nz_aload_n (pc := 29) (i := 0) E dX8_reached_29 rfl rfl ?_
    refine nz_iconst (pc := 30) (v := 0) E dX8_reached_30 (by decide) ?_
    obtain ⟨h4, hf⟩ := nz_chk_t hf
    refine nz_iald (pc := 31) (c := p) E hp h4 dX8_reached_31 ?_
    refine nz_icmp_ge (pc := 32) (tgt := 102) E dX8_reached_32 (by decide) (fun h5 => ?_) (fun h5 => ?_)
    · have hf := nz_ite_t hf h5
      refine nz_weak (lv' := [(0, .ref (q p)), (1, .int _), (2, .int _), (3, .int _), (4, .int _)]) ⟨rfl, rfl, rfl, rfl, rfl, trivial⟩ ?_
      exact hK _ _ _ hf
    · have hf := nz_ite_f hf h5
      refine nz_iconst (pc := 35) (v := 0) E dX8_reached_35 (by decide) ?_
      refine nz_istore (pc := 36) (i := 5) E dX8_reached_36 (by decide) rfl ?_
      refine nz_weak (lv' := [(0, .ref (q p)), (1, .int _), (2, .int _), (3, .int _), (4, .int _), (5, .int _)]) ⟨rfl, rfl, rfl, rfl, rfl, rfl, trivial⟩ ?_
      refine w_X8_reached_38 p hp _ _ _ E hR _ _ _ _ _ hf (fun u22 u23 x21 hf => ?_)
      refine nz_iinc (pc := 96) (i := 4) (w := 1) E dX8_reached_96 rfl (by decide) (by decide) rfl ?_
      refine nz_goto (pc := 99) (tgt := 27) E dX8_reached_99 (by decide) ?_
      refine nz_weak (lv' := [(0, .ref (q p)), (1, .int _), (2, .int _), (3, .int _), (4, .int _)]) ⟨rfl, rfl, rfl, rfl, rfl, trivial⟩ ?_
      exact ih _ _ _ _ hf hK
set_option maxHeartbeats 4000000 in
set_option maxRecDepth 20000 in
theorem w_X8_reached_18 {κ : nz_C} {q : Nat → Nat} {o : Int32 × nz_S} (p : Nat) (hp : nz_isP p) (c1 : Int32) (E : nz_Env κ q nz_tM 7 cX8_reached RX8 (nz_T yX8_reached cX8_reached 7 (some .int)) (nz_R 1 21)) (hR : nz_RI κ q nz_tM .int o) : ∀ (fu : Nat) (w2 : Int32) (w3 : Int32) (x : nz_S) (K : Int32 → Int32 → nz_S → Option (Int32 × nz_S)), f_X8_reached_18 p c1 fu w2 w3 x K = some o → (∀ (w2 : Int32) (w3 : Int32) (x : nz_S), K w2 w3 x = some o → nz_St κ q nz_tM 7 108 [(0, .ref (q p)), (1, .int c1), (2, .int w2), (3, .int w3)] [] x) → nz_St κ q nz_tM 7 18 [(0, .ref (q p)), (1, .int c1), (2, .int w2), (3, .int w3)] [] x := by
  intro fu
  induction fu with
  | zero => intro w2 w3 x K hf; rw [f_X8_reached_18] at hf; cases hf
  | succ fu ih =>
    intro w2 w3 x K hf hK
    rw [f_X8_reached_18] at hf
    refine nz_iload_n (pc := 18) (i := 3) E dX8_reached_18 rfl rfl ?_
    refine nz_bipush (pc := 19) (v := 12) E dX8_reached_19 (by decide) ?_
    refine nz_icmp_ge (pc := 21) (tgt := 108) E dX8_reached_21 (by decide) (fun h3 => ?_) (fun h3 => ?_)
    · have hf := nz_ite_t hf h3
      refine nz_weak (lv' := [(0, .ref (q p)), (1, .int _), (2, .int _), (3, .int _)]) ⟨rfl, rfl, rfl, rfl, trivial⟩ ?_
      exact hK _ _ _ hf
    · have hf := nz_ite_f hf h3
      refine nz_iconst (pc := 24) (v := 0) E dX8_reached_24 (by decide) ?_
      refine nz_istore (pc := 25) (i := 4) E dX8_reached_25 (by decide) rfl ?_
      refine nz_weak (lv' := [(0, .ref (q p)), (1, .int _), (2, .int _), (3, .int _), (4, .int _)]) ⟨rfl, rfl, rfl, rfl, rfl, trivial⟩ ?_
      refine w_X8_reached_27 p hp _ _ E hR _ _ _ _ _ hf (fun u26 u27 x25 hf => ?_)
      refine nz_iinc (pc := 102) (i := 3) (w := 1) E dX8_reached_102 rfl (by decide) (by decide) rfl ?_
      refine nz_goto (pc := 105) (tgt := 18) E dX8_reached_105 (by decide) ?_
      refine nz_weak (lv' := [(0, .ref (q p)), (1, .int _), (2, .int _), (3, .int _)]) ⟨rfl, rfl, rfl, rfl, trivial⟩ ?_
      exact ih _ _ _ _ hf hK
set_option maxHeartbeats 4000000 in
set_option maxRecDepth 20000 in
theorem k_X8_reached {l : Launch} {w : nz_O} {q : Nat → Nat} (p : Nat) (hp : nz_isP p) (a0 : Int32) (x : nz_S) (o : Int32 × nz_S) (hf : f_X8_reached p a0 x = some o) : nz_MI l yX8_reached (nz_T yX8_reached cX8_reached 7 (some .int)) (nz_R 1 21) w q nz_tM [.ref (q p), .int a0] x o := by
  refine nz_enterI (by decide) rfl (Nat.le_of_ble_eq_true rfl) rfl rfl ?_
  intro κ E hw hlq hR
  subst hw; subst hlq
  unfold f_X8_reached at hf
  refine nz_weak (lv' := [(0, .ref (q p)), (1, .int a0)]) ⟨rfl, rfl, trivial⟩ ?_
  refine nz_aload_n (pc := 0) (i := 0) E dX8_reached_0 rfl rfl ?_
  refine nz_iconst (pc := 1) (v := 0) E dX8_reached_1 (by decide) ?_
  obtain ⟨h1, hf⟩ := nz_chk_t hf
  refine nz_iald (pc := 2) (c := p) E hp h1 dX8_reached_2 ?_
  refine nz_if_eq (pc := 3) (tgt := 10) E dX8_reached_3 (by decide) (fun h2 => ?_) (fun h2 => ?_)
  · have hf := nz_ite_t hf h2
    refine nz_iconst (pc := 10) (v := 0) E dX8_reached_10 (by decide) ?_
    refine nz_goto (pc := 11) (tgt := 15) E dX8_reached_11 (by decide) ?_
    refine nz_istore_n (pc := 15) (i := 2) E dX8_reached_15 rfl (by decide) rfl ?_
    refine nz_iconst (pc := 16) (v := 0) E dX8_reached_16 (by decide) ?_
    refine nz_istore_n (pc := 17) (i := 3) E dX8_reached_17 rfl (by decide) rfl ?_
    refine nz_weak (lv' := [(0, .ref (q p)), (1, .int _), (2, .int _), (3, .int _)]) ⟨rfl, rfl, rfl, rfl, trivial⟩ ?_
    refine w_X8_reached_18 p hp _ E hR _ _ _ _ _ hf (fun u30 u31 x29 hf => ?_)
    refine nz_iload_n (pc := 108) (i := 2) E dX8_reached_108 rfl rfl ?_
    exact nz_iret (pc := 109) E hR rfl hf dX8_reached_109
  · have hf := nz_ite_f hf h2
    refine nz_iload_n (pc := 6) (i := 1) E dX8_reached_6 rfl rfl ?_
    refine nz_if_ne (pc := 7) (tgt := 14) E dX8_reached_7 (by decide) (fun h32 => ?_) (fun h32 => ?_)
    · have hf := nz_ite_f hf h32
      refine nz_iconst (pc := 14) (v := 1) E dX8_reached_14 (by decide) ?_
      refine nz_istore_n (pc := 15) (i := 2) E dX8_reached_15 rfl (by decide) rfl ?_
      refine nz_iconst (pc := 16) (v := 0) E dX8_reached_16 (by decide) ?_
      refine nz_istore_n (pc := 17) (i := 3) E dX8_reached_17 rfl (by decide) rfl ?_
      refine nz_weak (lv' := [(0, .ref (q p)), (1, .int _), (2, .int _), (3, .int _)]) ⟨rfl, rfl, rfl, rfl, trivial⟩ ?_
      refine w_X8_reached_18 p hp _ E hR _ _ _ _ _ hf (fun u34 u35 x33 hf => ?_)
      refine nz_iload_n (pc := 108) (i := 2) E dX8_reached_108 rfl rfl ?_
      exact nz_iret (pc := 109) E hR rfl hf dX8_reached_109
    · have hf := nz_ite_t hf h32
      refine nz_iconst (pc := 10) (v := 0) E dX8_reached_10 (by decide) ?_
      refine nz_goto (pc := 11) (tgt := 15) E dX8_reached_11 (by decide) ?_
      refine nz_istore_n (pc := 15) (i := 2) E dX8_reached_15 rfl (by decide) rfl ?_
      refine nz_iconst (pc := 16) (v := 0) E dX8_reached_16 (by decide) ?_
      refine nz_istore_n (pc := 17) (i := 3) E dX8_reached_17 rfl (by decide) rfl ?_
      refine nz_weak (lv' := [(0, .ref (q p)), (1, .int _), (2, .int _), (3, .int _)]) ⟨rfl, rfl, rfl, rfl, trivial⟩ ?_
      refine w_X8_reached_18 p hp _ E hR _ _ _ _ _ hf (fun u37 u38 x36 hf => ?_)
      refine nz_iload_n (pc := 108) (i := 2) E dX8_reached_108 rfl rfl ?_
      exact nz_iret (pc := 109) E hR rfl hf dX8_reached_109
def f_X8_passed (p : Nat) (a0 : Int32) (x : nz_S) : Option (Int32 × nz_S) :=
  nz_bnd (f_X8_reached p (-9 : Int32) x) fun r1 x2 =>
  nz_bnd (f_X8_has  r1 a0 x2) fun r4 x5 =>
  if r4 = (0 : Int32) then
    some ((0 : Int32), x5)
  else
    nz_bnd (f_X8_reached p a0 x5) fun r8 x9 =>
    some ((r1 &&& (r8 ^^^ (-1 : Int32))), x9)
theorem ds_X8_passed : nz_dsc yX8_passed 2 := by unfold nz_dsc; decide +kernel
set_option maxHeartbeats 4000000 in
set_option maxRecDepth 20000 in
theorem k_X8_passed {l : Launch} {w : nz_O} {q : Nat → Nat} (p : Nat) (hp : nz_isP p) (a0 : Int32) (x : nz_S) (o : Int32 × nz_S) (hf : f_X8_passed p a0 x = some o) : nz_MI l yX8_passed (nz_T yX8_passed cX8_passed 3 (some .int)) (nz_R 2 47) w q nz_tM [.ref (q p), .int a0] x o := by
  refine nz_enterI (by decide) rfl (Nat.le_of_ble_eq_true rfl) rfl rfl ?_
  intro κ E hw hlq hR
  subst hw; subst hlq
  unfold f_X8_passed at hf
  refine nz_weak (lv' := [(0, .ref (q p)), (1, .int a0)]) ⟨rfl, rfl, trivial⟩ ?_
  refine nz_aload_n (pc := 0) (i := 0) E dX8_passed_0 rfl rfl ?_
  refine nz_bipush (pc := 1) (v := -9) E dX8_passed_1 (by decide) ?_
  obtain ⟨r1, x2, h3, hf⟩ := nz_bnd_t hf
  refine nz_callSI (pc := 3) (As := [.ref (q p), .int _]) E (k_X8_reached p hp _ _ _ h3) (nz_cwS E nz_w864 nz_w865 nz_w67 nz_w866 ds_X8_reached ⟨Nat.le_of_ble_eq_true rfl, Nat.le_of_ble_eq_true rfl⟩ rfl rfl) rfl rfl (Nat.le_of_ble_eq_true rfl) dX8_passed_3 ?_
  refine nz_istore_n (pc := 6) (i := 2) E dX8_passed_6 rfl (by decide) rfl ?_
  refine nz_iload_n (pc := 7) (i := 2) E dX8_passed_7 rfl rfl ?_
  refine nz_iload_n (pc := 8) (i := 1) E dX8_passed_8 rfl rfl ?_
  obtain ⟨r4, x5, h6, hf⟩ := nz_bnd_t hf
  refine nz_callSI (pc := 9) (As := [.int _, .int _]) E (k_X8_has   _ _ _ _ h6) (nz_cwS E nz_w831 nz_w832 nz_w67 nz_w833 ds_X8_has ⟨Nat.le_of_ble_eq_true rfl, Nat.le_of_ble_eq_true rfl⟩ rfl rfl) rfl rfl (Nat.le_of_ble_eq_true rfl) dX8_passed_9 ?_
  refine nz_if_eq (pc := 12) (tgt := 27) E dX8_passed_12 (by decide) (fun h7 => ?_) (fun h7 => ?_)
  · have hf := nz_ite_t hf h7
    refine nz_iconst (pc := 27) (v := 0) E dX8_passed_27 (by decide) ?_
    exact nz_iret (pc := 28) E hR rfl hf dX8_passed_28
  · have hf := nz_ite_f hf h7
    refine nz_iload_n (pc := 15) (i := 2) E dX8_passed_15 rfl rfl ?_
    refine nz_aload_n (pc := 16) (i := 0) E dX8_passed_16 rfl rfl ?_
    refine nz_iload_n (pc := 17) (i := 1) E dX8_passed_17 rfl rfl ?_
    obtain ⟨r8, x9, h10, hf⟩ := nz_bnd_t hf
    refine nz_callSI (pc := 18) (As := [.ref (q p), .int _]) E (k_X8_reached p hp _ _ _ h10) (nz_cwS E nz_w864 nz_w865 nz_w67 nz_w866 ds_X8_reached ⟨Nat.le_of_ble_eq_true rfl, Nat.le_of_ble_eq_true rfl⟩ rfl rfl) rfl rfl (Nat.le_of_ble_eq_true rfl) dX8_passed_18 ?_
    refine nz_iconst (pc := 21) (v := -1) E dX8_passed_21 (by decide) ?_
    refine nz_ixor (pc := 22) E dX8_passed_22 ?_
    refine nz_iand (pc := 23) E dX8_passed_23 ?_
    refine nz_goto (pc := 24) (tgt := 28) E dX8_passed_24 (by decide) ?_
    exact nz_iret (pc := 28) E hR rfl hf dX8_passed_28
def f_X8_isTame_4 (p : Nat) : Nat → Int32 → Int32 → nz_S → (Int32 → Int32 → nz_S → Option (Int32 × nz_S)) → Option (Int32 × nz_S)
  | 0, _, _, _, _ => none
  | fu + 1, w2, w3, x, K =>
  nz_chk (nz_in (0 : Int32) 61) <|
  if (x.1 p ((0 : Int32)).toNatClampNeg) ≤ w3 then
    K w2 w3 x
  else
    nz_chk (nz_in w3 12) <|
    if (x.1 11 (w3).toNatClampNeg) = (-9 : Int32) then
      if w2 = (0 : Int32) then
        let v17 : Int32 := w3 + 1
        f_X8_isTame_4 p fu (0 : Int32) v17 x K
      else
        nz_bnd (f_X8_passed p w3 x) fun r18 x19 =>
        if ((0 : Int32) &&& (r18 ^^^ (-1 : Int32))) = (0 : Int32) then
          let v23 : Int32 := w3 + 1
          f_X8_isTame_4 p fu (1 : Int32) v23 x19 K
        else
          let v22 : Int32 := w3 + 1
          f_X8_isTame_4 p fu (0 : Int32) v22 x19 K
    else
      nz_bnd (f_X8_backs p w3 x) fun r5 x6 =>
      if w2 = (0 : Int32) then
        let v9 : Int32 := w3 + 1
        f_X8_isTame_4 p fu (0 : Int32) v9 x6 K
      else
        nz_bnd (f_X8_passed p w3 x6) fun r10 x11 =>
        if (r5 &&& (r10 ^^^ (-1 : Int32))) = (0 : Int32) then
          let v15 : Int32 := w3 + 1
          f_X8_isTame_4 p fu (1 : Int32) v15 x11 K
        else
          let v14 : Int32 := w3 + 1
          f_X8_isTame_4 p fu (0 : Int32) v14 x11 K
def f_X8_isTame (p : Nat) (x : nz_S) : Option (Int32 × nz_S) :=
  f_X8_isTame_4 p nz_F (1 : Int32) (0 : Int32) x fun u25 u26 x24 =>
    nz_chk (nz_bo u25) <|
    some (u25, x24)
theorem ds_X8_isTame : nz_dsc yX8_isTame 1 := by unfold nz_dsc; decide +kernel
set_option maxHeartbeats 4000000 in
set_option maxRecDepth 20000 in
theorem w_X8_isTame_4 {κ : nz_C} {q : Nat → Nat} {o : Int32 × nz_S} (p : Nat) (hp : nz_isP p) (E : nz_Env κ q nz_tM 5 cX8_isTame RX8 (nz_T yX8_isTame cX8_isTame 5 (some .boolean)) (nz_R 3 71)) (hR : nz_RI κ q nz_tM .boolean o) : ∀ (fu : Nat) (w2 : Int32) (w3 : Int32) (x : nz_S) (K : Int32 → Int32 → nz_S → Option (Int32 × nz_S)), f_X8_isTame_4 p fu w2 w3 x K = some o → (∀ (w2 : Int32) (w3 : Int32) (x : nz_S), K w2 w3 x = some o → nz_St κ q nz_tM 5 63 [(0, .ref (q 0)), (1, .ref (q p)), (2, .int w2), (3, .int w3)] [] x) → nz_St κ q nz_tM 5 4 [(0, .ref (q 0)), (1, .ref (q p)), (2, .int w2), (3, .int w3)] [] x := by
  intro fu
  induction fu with
  | zero => intro w2 w3 x K hf; rw [f_X8_isTame_4] at hf; cases hf
  | succ fu ih =>
    intro w2 w3 x K hf hK
    rw [f_X8_isTame_4] at hf
    refine nz_iload_n (pc := 4) (i := 3) E dX8_isTame_4 rfl rfl ?_
    refine nz_aload_n (pc := 5) (i := 1) E dX8_isTame_5 rfl rfl ?_
    refine nz_iconst (pc := 6) (v := 0) E dX8_isTame_6 (by decide) ?_
    obtain ⟨h1, hf⟩ := nz_chk_t hf
    refine nz_iald (pc := 7) (c := p) E hp h1 dX8_isTame_7 ?_
    refine nz_icmp_ge (pc := 8) (tgt := 63) E dX8_isTame_8 (by decide) (fun h2 => ?_) (fun h2 => ?_)
    · have hf := nz_ite_t hf h2
      refine nz_weak (lv' := [(0, .ref (q 0)), (1, .ref (q p)), (2, .int _), (3, .int _)]) ⟨rfl, rfl, rfl, rfl, trivial⟩ ?_
      exact hK _ _ _ hf
    · have hf := nz_ite_f hf h2
      refine nz_aload_n (pc := 11) (i := 0) E dX8_isTame_11 rfl rfl ?_
      refine nz_getR (pc := 12) (c := 0) (kf := 17) E rfl rfl (nz_upT nz_uX8) (by decide) (List.mem_cons_of_mem _ nz_w693) rfl rfl dX8_isTame_12 ?_
      refine nz_iload_n (pc := 15) (i := 3) E dX8_isTame_15 rfl rfl ?_
      obtain ⟨h3, hf⟩ := nz_chk_t hf
      refine nz_iald (pc := 16) (c := 11) E rfl h3 dX8_isTame_16 ?_
      refine nz_bipush (pc := 17) (v := -9) E dX8_isTame_17 (by decide) ?_
      refine nz_icmp_ne (pc := 19) (tgt := 26) E dX8_isTame_19 (by decide) (fun h4 => ?_) (fun h4 => ?_)
      · have hf := nz_ite_f hf h4
        refine nz_aload_n (pc := 26) (i := 0) E dX8_isTame_26 rfl rfl ?_
        refine nz_aload_n (pc := 27) (i := 1) E dX8_isTame_27 rfl rfl ?_
        refine nz_iload_n (pc := 28) (i := 3) E dX8_isTame_28 rfl rfl ?_
        obtain ⟨r5, x6, h7, hf⟩ := nz_bnd_t hf
        refine nz_callVI (pc := 29) (c0 := 0) (As := [.ref (q p), .int _]) E rfl rfl (k_X8_backs p hp _ _ _ h7) (nz_cwV E nz_w827 nz_w829 nz_w30 nz_w67 nz_w830 ds_X8_backs ⟨Nat.le_of_ble_eq_true rfl, Nat.le_of_ble_eq_true rfl⟩ rfl rfl) rfl rfl (Nat.le_of_ble_eq_true rfl) dX8_isTame_29 ?_
        refine nz_istore (pc := 32) (i := 4) E dX8_isTame_32 (by decide) rfl ?_
        refine nz_iload_n (pc := 34) (i := 2) E dX8_isTame_34 rfl rfl ?_
        refine nz_if_eq (pc := 35) (tgt := 55) E dX8_isTame_35 (by decide) (fun h8 => ?_) (fun h8 => ?_)
        · have hf := nz_ite_t hf h8
          refine nz_iconst (pc := 55) (v := 0) E dX8_isTame_55 (by decide) ?_
          refine nz_istore_n (pc := 56) (i := 2) E dX8_isTame_56 rfl (by decide) rfl ?_
          refine nz_iinc (pc := 57) (i := 3) (w := 1) E dX8_isTame_57 rfl (by decide) (by decide) rfl ?_
          refine nz_goto (pc := 60) (tgt := 4) E dX8_isTame_60 (by decide) ?_
          refine nz_weak (lv' := [(0, .ref (q 0)), (1, .ref (q p)), (2, .int _), (3, .int _)]) ⟨rfl, rfl, rfl, rfl, trivial⟩ ?_
          exact ih _ _ _ _ hf hK
        · have hf := nz_ite_f hf h8
          refine nz_iload (pc := 38) (i := 4) E dX8_isTame_38 rfl ?_
          refine nz_aload_n (pc := 40) (i := 1) E dX8_isTame_40 rfl rfl ?_
          refine nz_iload_n (pc := 41) (i := 3) E dX8_isTame_41 rfl rfl ?_
          obtain ⟨r10, x11, h12, hf⟩ := nz_bnd_t hf
          refine nz_callSI (pc := 42) (As := [.ref (q p), .int _]) E (k_X8_passed p hp _ _ _ h12) (nz_cwS E nz_w861 nz_w862 nz_w67 nz_w863 ds_X8_passed ⟨Nat.le_of_ble_eq_true rfl, Nat.le_of_ble_eq_true rfl⟩ rfl rfl) rfl rfl (Nat.le_of_ble_eq_true rfl) dX8_isTame_42 ?_
          refine nz_iconst (pc := 45) (v := -1) E dX8_isTame_45 (by decide) ?_
          refine nz_ixor (pc := 46) E dX8_isTame_46 ?_
          refine nz_iand (pc := 47) E dX8_isTame_47 ?_
          refine nz_if_ne (pc := 48) (tgt := 55) E dX8_isTame_48 (by decide) (fun h13 => ?_) (fun h13 => ?_)
          · have hf := nz_ite_f hf h13
            refine nz_iconst (pc := 55) (v := 0) E dX8_isTame_55 (by decide) ?_
            refine nz_istore_n (pc := 56) (i := 2) E dX8_isTame_56 rfl (by decide) rfl ?_
            refine nz_iinc (pc := 57) (i := 3) (w := 1) E dX8_isTame_57 rfl (by decide) (by decide) rfl ?_
            refine nz_goto (pc := 60) (tgt := 4) E dX8_isTame_60 (by decide) ?_
            refine nz_weak (lv' := [(0, .ref (q 0)), (1, .ref (q p)), (2, .int _), (3, .int _)]) ⟨rfl, rfl, rfl, rfl, trivial⟩ ?_
            exact ih _ _ _ _ hf hK
          · have hf := nz_ite_t hf h13
            refine nz_iconst (pc := 51) (v := 1) E dX8_isTame_51 (by decide) ?_
            refine nz_goto (pc := 52) (tgt := 56) E dX8_isTame_52 (by decide) ?_
            refine nz_istore_n (pc := 56) (i := 2) E dX8_isTame_56 rfl (by decide) rfl ?_
            refine nz_iinc (pc := 57) (i := 3) (w := 1) E dX8_isTame_57 rfl (by decide) (by decide) rfl ?_
            refine nz_goto (pc := 60) (tgt := 4) E dX8_isTame_60 (by decide) ?_
            refine nz_weak (lv' := [(0, .ref (q 0)), (1, .ref (q p)), (2, .int _), (3, .int _)]) ⟨rfl, rfl, rfl, rfl, trivial⟩ ?_
            exact ih _ _ _ _ hf hK
      · have hf := nz_ite_t hf h4
        refine nz_iconst (pc := 22) (v := 0) E dX8_isTame_22 (by decide) ?_
        refine nz_goto (pc := 23) (tgt := 32) E dX8_isTame_23 (by decide) ?_
        refine nz_istore (pc := 32) (i := 4) E dX8_isTame_32 (by decide) rfl ?_
        refine nz_iload_n (pc := 34) (i := 2) E dX8_isTame_34 rfl rfl ?_
        refine nz_if_eq (pc := 35) (tgt := 55) E dX8_isTame_35 (by decide) (fun h16 => ?_) (fun h16 => ?_)
        · have hf := nz_ite_t hf h16
          refine nz_iconst (pc := 55) (v := 0) E dX8_isTame_55 (by decide) ?_
          refine nz_istore_n (pc := 56) (i := 2) E dX8_isTame_56 rfl (by decide) rfl ?_
          refine nz_iinc (pc := 57) (i := 3) (w := 1) E dX8_isTame_57 rfl (by decide) (by decide) rfl ?_
          refine nz_goto (pc := 60) (tgt := 4) E dX8_isTame_60 (by decide) ?_
          refine nz_weak (lv' := [(0, .ref (q 0)), (1, .ref (q p)), (2, .int _), (3, .int _)]) ⟨rfl, rfl, rfl, rfl, trivial⟩ ?_
          exact ih _ _ _ _ hf hK
        · have hf := nz_ite_f hf h16
          refine nz_iload (pc := 38) (i := 4) E dX8_isTame_38 rfl ?_
          refine nz_aload_n (pc := 40) (i := 1) E dX8_isTame_40 rfl rfl ?_
          refine nz_iload_n (pc := 41) (i := 3) E dX8_isTame_41 rfl rfl ?_
          obtain ⟨r18, x19, h20, hf⟩ := nz_bnd_t hf
          refine nz_callSI (pc := 42) (As := [.ref (q p), .int _]) E (k_X8_passed p hp _ _ _ h20) (nz_cwS E nz_w861 nz_w862 nz_w67 nz_w863 ds_X8_passed ⟨Nat.le_of_ble_eq_true rfl, Nat.le_of_ble_eq_true rfl⟩ rfl rfl) rfl rfl (Nat.le_of_ble_eq_true rfl) dX8_isTame_42 ?_
          refine nz_iconst (pc := 45) (v := -1) E dX8_isTame_45 (by decide) ?_
          refine nz_ixor (pc := 46) E dX8_isTame_46 ?_
          refine nz_iand (pc := 47) E dX8_isTame_47 ?_
          refine nz_if_ne (pc := 48) (tgt := 55) E dX8_isTame_48 (by decide) (fun h21 => ?_) (fun h21 => ?_)
          · have hf := nz_ite_f hf h21
            refine nz_iconst (pc := 55) (v := 0) E dX8_isTame_55 (by decide) ?_
            refine nz_istore_n (pc := 56) (i := 2) E dX8_isTame_56 rfl (by decide) rfl ?_
            refine nz_iinc (pc := 57) (i := 3) (w := 1) E dX8_isTame_57 rfl (by decide) (by decide) rfl ?_
            refine nz_goto (pc := 60) (tgt := 4) E dX8_isTame_60 (by decide) ?_
            refine nz_weak (lv' := [(0, .ref (q 0)), (1, .ref (q p)), (2, .int _), (3, .int _)]) ⟨rfl, rfl, rfl, rfl, trivial⟩ ?_
            exact ih _ _ _ _ hf hK
          · have hf := nz_ite_t hf h21
            refine nz_iconst (pc := 51) (v := 1) E dX8_isTame_51 (by decide) ?_
            refine nz_goto (pc := 52) (tgt := 56) E dX8_isTame_52 (by decide) ?_
            refine nz_istore_n (pc := 56) (i := 2) E dX8_isTame_56 rfl (by decide) rfl ?_
            refine nz_iinc (pc := 57) (i := 3) (w := 1) E dX8_isTame_57 rfl (by decide) (by decide) rfl ?_
            refine nz_goto (pc := 60) (tgt := 4) E dX8_isTame_60 (by decide) ?_
            refine nz_weak (lv' := [(0, .ref (q 0)), (1, .ref (q p)), (2, .int _), (3, .int _)]) ⟨rfl, rfl, rfl, rfl, trivial⟩ ?_
            exact ih _ _ _ _ hf hK
set_option maxHeartbeats 4000000 in
set_option maxRecDepth 20000 in
theorem k_X8_isTame {l : Launch} {w : nz_O} {q : Nat → Nat} (p : Nat) (hp : nz_isP p) (x : nz_S) (o : Int32 × nz_S) (hf : f_X8_isTame p x = some o) : nz_MI l yX8_isTame (nz_T yX8_isTame cX8_isTame 5 (some .boolean)) (nz_R 3 71) w q nz_tM [.ref (q 0), .ref (q p)] x o := by
  refine nz_enterI (by decide) rfl (Nat.le_of_ble_eq_true rfl) rfl rfl ?_
  intro κ E hw hlq hR
  subst hw; subst hlq
  unfold f_X8_isTame at hf
  refine nz_weak (lv' := [(0, .ref (q 0)), (1, .ref (q p))]) ⟨rfl, rfl, trivial⟩ ?_
  refine nz_iconst (pc := 0) (v := 1) E dX8_isTame_0 (by decide) ?_
  refine nz_istore_n (pc := 1) (i := 2) E dX8_isTame_1 rfl (by decide) rfl ?_
  refine nz_iconst (pc := 2) (v := 0) E dX8_isTame_2 (by decide) ?_
  refine nz_istore_n (pc := 3) (i := 3) E dX8_isTame_3 rfl (by decide) rfl ?_
  refine nz_weak (lv' := [(0, .ref (q 0)), (1, .ref (q p)), (2, .int _), (3, .int _)]) ⟨rfl, rfl, rfl, rfl, trivial⟩ ?_
  refine w_X8_isTame_4 p hp E hR _ _ _ _ _ hf (fun u25 u26 x24 hf => ?_)
  refine nz_iload_n (pc := 63) (i := 2) E dX8_isTame_63 rfl rfl ?_
  obtain ⟨h27, hf⟩ := nz_chk_t hf
  exact nz_iret (pc := 64) E hR (nz_narZ h27) hf dX8_isTame_64
def f_X8_arcs_4 (p : Nat) : Nat → Int32 → Int32 → nz_S → (Int32 → Int32 → nz_S → Option (Int32 × nz_S)) → Option (Int32 × nz_S)
  | 0, _, _, _, _ => none
  | fu + 1, w1, w2, x, K =>
  nz_chk (nz_in (0 : Int32) 61) <|
  if (x.1 p ((0 : Int32)).toNatClampNeg) ≤ w2 then
    K w1 w2 x
  else
    let v3 : Int32 := ((13 : Int32) + w2)
    nz_chk (nz_in v3 61) <|
    let v5 : Int32 := (w1 + (x.1 p (v3).toNatClampNeg))
    let v6 : Int32 := w2 + 1
    f_X8_arcs_4 p fu v5 v6 x K
def f_X8_arcs (p : Nat) (x : nz_S) : Option (Int32 × nz_S) :=
  f_X8_arcs_4 p nz_F (0 : Int32) (0 : Int32) x fun u8 u9 x7 =>
    some (u8, x7)
theorem ds_X8_arcs : nz_dsc yX8_arcs 1 := by unfold nz_dsc; decide +kernel
set_option maxHeartbeats 4000000 in
set_option maxRecDepth 20000 in
theorem w_X8_arcs_4 {κ : nz_C} {q : Nat → Nat} {o : Int32 × nz_S} (p : Nat) (hp : nz_isP p) (E : nz_Env κ q nz_tM 3 cX8_arcs RX8 (nz_T yX8_arcs cX8_arcs 3 (some .int)) (nz_R 0 0)) (hR : nz_RI κ q nz_tM .int o) : ∀ (fu : Nat) (w1 : Int32) (w2 : Int32) (x : nz_S) (K : Int32 → Int32 → nz_S → Option (Int32 × nz_S)), f_X8_arcs_4 p fu w1 w2 x K = some o → (∀ (w1 : Int32) (w2 : Int32) (x : nz_S), K w1 w2 x = some o → nz_St κ q nz_tM 3 26 [(0, .ref (q p)), (1, .int w1), (2, .int w2)] [] x) → nz_St κ q nz_tM 3 4 [(0, .ref (q p)), (1, .int w1), (2, .int w2)] [] x := by
  intro fu
  induction fu with
  | zero => intro w1 w2 x K hf; rw [f_X8_arcs_4] at hf; cases hf
  | succ fu ih =>
    intro w1 w2 x K hf hK
    rw [f_X8_arcs_4] at hf
    refine nz_iload_n (pc := 4) (i := 2) E dX8_arcs_4 rfl rfl ?_
    refine nz_aload_n (pc := 5) (i := 0) E dX8_arcs_5 rfl rfl ?_
    refine nz_iconst (pc := 6) (v := 0) E dX8_arcs_6 (by decide) ?_
    obtain ⟨h1, hf⟩ := nz_chk_t hf
    refine nz_iald (pc := 7) (c := p) E hp h1 dX8_arcs_7 ?_
    refine nz_icmp_ge (pc := 8) (tgt := 26) E dX8_arcs_8 (by decide) (fun h2 => ?_) (fun h2 => ?_)
    · have hf := nz_ite_t hf h2
      refine nz_weak (lv' := [(0, .ref (q p)), (1, .int _), (2, .int _)]) ⟨rfl, rfl, rfl, trivial⟩ ?_
      exact hK _ _ _ hf
    · have hf := nz_ite_f hf h2
      refine nz_iload_n (pc := 11) (i := 1) E dX8_arcs_11 rfl rfl ?_
      refine nz_aload_n (pc := 12) (i := 0) E dX8_arcs_12 rfl rfl ?_
      refine nz_bipush (pc := 13) (v := 13) E dX8_arcs_13 (by decide) ?_
      refine nz_iload_n (pc := 15) (i := 2) E dX8_arcs_15 rfl rfl ?_
      refine nz_iadd (pc := 16) E dX8_arcs_16 ?_
      obtain ⟨h4, hf⟩ := nz_chk_t hf
      refine nz_iald (pc := 17) (c := p) E hp h4 dX8_arcs_17 ?_
      refine nz_iadd (pc := 18) E dX8_arcs_18 ?_
      refine nz_istore_n (pc := 19) (i := 1) E dX8_arcs_19 rfl (by decide) rfl ?_
      refine nz_iinc (pc := 20) (i := 2) (w := 1) E dX8_arcs_20 rfl (by decide) (by decide) rfl ?_
      refine nz_goto (pc := 23) (tgt := 4) E dX8_arcs_23 (by decide) ?_
      refine nz_weak (lv' := [(0, .ref (q p)), (1, .int _), (2, .int _)]) ⟨rfl, rfl, rfl, trivial⟩ ?_
      exact ih _ _ _ _ hf hK
set_option maxHeartbeats 4000000 in
set_option maxRecDepth 20000 in
theorem k_X8_arcs {l : Launch} {w : nz_O} {q : Nat → Nat} (p : Nat) (hp : nz_isP p) (x : nz_S) (o : Int32 × nz_S) (hf : f_X8_arcs p x = some o) : nz_MI l yX8_arcs (nz_T yX8_arcs cX8_arcs 3 (some .int)) (nz_R 0 0) w q nz_tM [.ref (q p)] x o := by
  refine nz_enterI (by decide) rfl (Nat.le_of_ble_eq_true rfl) rfl rfl ?_
  intro κ E hw hlq hR
  subst hw; subst hlq
  unfold f_X8_arcs at hf
  refine nz_weak (lv' := [(0, .ref (q p))]) ⟨rfl, trivial⟩ ?_
  refine nz_iconst (pc := 0) (v := 0) E dX8_arcs_0 (by decide) ?_
  refine nz_istore_n (pc := 1) (i := 1) E dX8_arcs_1 rfl (by decide) rfl ?_
  refine nz_iconst (pc := 2) (v := 0) E dX8_arcs_2 (by decide) ?_
  refine nz_istore_n (pc := 3) (i := 2) E dX8_arcs_3 rfl (by decide) rfl ?_
  refine nz_weak (lv' := [(0, .ref (q p)), (1, .int _), (2, .int _)]) ⟨rfl, rfl, rfl, trivial⟩ ?_
  refine w_X8_arcs_4 p hp E hR _ _ _ _ _ hf (fun u8 u9 x7 hf => ?_)
  refine nz_iload_n (pc := 26) (i := 1) E dX8_arcs_26 rfl rfl ?_
  exact nz_iret (pc := 27) E hR rfl hf dX8_arcs_27
def f_X8_kinds_4 (c1 : Int32) : Nat → Int32 → Int32 → nz_S → (Int32 → Int32 → nz_S → Option (Int32 × nz_S)) → Option (Int32 × nz_S)
  | 0, _, _, _, _ => none
  | fu + 1, w2, w3, x, K =>
  if (12 : Int32) ≤ w3 then
    K w2 w3 x
  else
    nz_chk (nz_in w3 12) <|
    if (x.1 11 (w3).toNatClampNeg) = (-9 : Int32) then
      let v4 : Int32 := (w2 + (0 : Int32))
      let v5 : Int32 := w3 + 1
      f_X8_kinds_4 c1 fu v4 v5 x K
    else
      nz_chk (nz_in w3 12) <|
      if (x.1 16 (w3).toNatClampNeg) < c1 then
        let v8 : Int32 := (w2 + (0 : Int32))
        let v9 : Int32 := w3 + 1
        f_X8_kinds_4 c1 fu v8 v9 x K
      else
        let v10 : Int32 := (w2 + (1 : Int32))
        let v11 : Int32 := w3 + 1
        f_X8_kinds_4 c1 fu v10 v11 x K
def f_X8_kinds (a0 : Int32) (x : nz_S) : Option (Int32 × nz_S) :=
  f_X8_kinds_4 a0 nz_F (0 : Int32) (0 : Int32) x fun u13 u14 x12 =>
    some (u13, x12)
theorem ds_X8_kinds : nz_dsc yX8_kinds 1 := by unfold nz_dsc; decide +kernel
set_option maxHeartbeats 4000000 in
set_option maxRecDepth 20000 in
theorem w_X8_kinds_4 {κ : nz_C} {q : Nat → Nat} {o : Int32 × nz_S} (c1 : Int32) (E : nz_Env κ q nz_tM 4 cX8_kinds RX8 (nz_T yX8_kinds cX8_kinds 4 (some .int)) (nz_R 0 0)) (hR : nz_RI κ q nz_tM .int o) : ∀ (fu : Nat) (w2 : Int32) (w3 : Int32) (x : nz_S) (K : Int32 → Int32 → nz_S → Option (Int32 × nz_S)), f_X8_kinds_4 c1 fu w2 w3 x K = some o → (∀ (w2 : Int32) (w3 : Int32) (x : nz_S), K w2 w3 x = some o → nz_St κ q nz_tM 4 45 [(0, .ref (q 0)), (1, .int c1), (2, .int w2), (3, .int w3)] [] x) → nz_St κ q nz_tM 4 4 [(0, .ref (q 0)), (1, .int c1), (2, .int w2), (3, .int w3)] [] x := by
  intro fu
  induction fu with
  | zero => intro w2 w3 x K hf; rw [f_X8_kinds_4] at hf; cases hf
  | succ fu ih =>
    intro w2 w3 x K hf hK
    rw [f_X8_kinds_4] at hf
    refine nz_iload_n (pc := 4) (i := 3) E dX8_kinds_4 rfl rfl ?_
    refine nz_bipush (pc := 5) (v := 12) E dX8_kinds_5 (by decide) ?_
    refine nz_icmp_ge (pc := 7) (tgt := 45) E dX8_kinds_7 (by decide) (fun h1 => ?_) (fun h1 => ?_)
    · have hf := nz_ite_t hf h1
      refine nz_weak (lv' := [(0, .ref (q 0)), (1, .int _), (2, .int _), (3, .int _)]) ⟨rfl, rfl, rfl, rfl, trivial⟩ ?_
      exact hK _ _ _ hf
    · have hf := nz_ite_f hf h1
      refine nz_iload_n (pc := 10) (i := 2) E dX8_kinds_10 rfl rfl ?_
      refine nz_aload_n (pc := 11) (i := 0) E dX8_kinds_11 rfl rfl ?_
      refine nz_getR (pc := 12) (c := 0) (kf := 17) E rfl rfl (nz_upT nz_uX8) (by decide) (List.mem_cons_of_mem _ nz_w693) rfl rfl dX8_kinds_12 ?_
      refine nz_iload_n (pc := 15) (i := 3) E dX8_kinds_15 rfl rfl ?_
      obtain ⟨h2, hf⟩ := nz_chk_t hf
      refine nz_iald (pc := 16) (c := 11) E rfl h2 dX8_kinds_16 ?_
      refine nz_bipush (pc := 17) (v := -9) E dX8_kinds_17 (by decide) ?_
      refine nz_icmp_eq (pc := 19) (tgt := 36) E dX8_kinds_19 (by decide) (fun h3 => ?_) (fun h3 => ?_)
      · have hf := nz_ite_t hf h3
        refine nz_iconst (pc := 36) (v := 0) E dX8_kinds_36 (by decide) ?_
        refine nz_iadd (pc := 37) E dX8_kinds_37 ?_
        refine nz_istore_n (pc := 38) (i := 2) E dX8_kinds_38 rfl (by decide) rfl ?_
        refine nz_iinc (pc := 39) (i := 3) (w := 1) E dX8_kinds_39 rfl (by decide) (by decide) rfl ?_
        refine nz_goto (pc := 42) (tgt := 4) E dX8_kinds_42 (by decide) ?_
        refine nz_weak (lv' := [(0, .ref (q 0)), (1, .int _), (2, .int _), (3, .int _)]) ⟨rfl, rfl, rfl, rfl, trivial⟩ ?_
        exact ih _ _ _ _ hf hK
      · have hf := nz_ite_f hf h3
        refine nz_aload_n (pc := 22) (i := 0) E dX8_kinds_22 rfl rfl ?_
        refine nz_getR (pc := 23) (c := 0) (kf := 22) E rfl rfl (nz_upT nz_uX8) (by decide) (List.mem_cons_of_mem _ nz_w698) rfl rfl dX8_kinds_23 ?_
        refine nz_iload_n (pc := 26) (i := 3) E dX8_kinds_26 rfl rfl ?_
        obtain ⟨h6, hf⟩ := nz_chk_t hf
        refine nz_iald (pc := 27) (c := 16) E rfl h6 dX8_kinds_27 ?_
        refine nz_iload_n (pc := 28) (i := 1) E dX8_kinds_28 rfl rfl ?_
        refine nz_icmp_lt (pc := 29) (tgt := 36) E dX8_kinds_29 (by decide) (fun h7 => ?_) (fun h7 => ?_)
        · have hf := nz_ite_t hf h7
          refine nz_iconst (pc := 36) (v := 0) E dX8_kinds_36 (by decide) ?_
          refine nz_iadd (pc := 37) E dX8_kinds_37 ?_
          refine nz_istore_n (pc := 38) (i := 2) E dX8_kinds_38 rfl (by decide) rfl ?_
          refine nz_iinc (pc := 39) (i := 3) (w := 1) E dX8_kinds_39 rfl (by decide) (by decide) rfl ?_
          refine nz_goto (pc := 42) (tgt := 4) E dX8_kinds_42 (by decide) ?_
          refine nz_weak (lv' := [(0, .ref (q 0)), (1, .int _), (2, .int _), (3, .int _)]) ⟨rfl, rfl, rfl, rfl, trivial⟩ ?_
          exact ih _ _ _ _ hf hK
        · have hf := nz_ite_f hf h7
          refine nz_iconst (pc := 32) (v := 1) E dX8_kinds_32 (by decide) ?_
          refine nz_goto (pc := 33) (tgt := 37) E dX8_kinds_33 (by decide) ?_
          refine nz_iadd (pc := 37) E dX8_kinds_37 ?_
          refine nz_istore_n (pc := 38) (i := 2) E dX8_kinds_38 rfl (by decide) rfl ?_
          refine nz_iinc (pc := 39) (i := 3) (w := 1) E dX8_kinds_39 rfl (by decide) (by decide) rfl ?_
          refine nz_goto (pc := 42) (tgt := 4) E dX8_kinds_42 (by decide) ?_
          refine nz_weak (lv' := [(0, .ref (q 0)), (1, .int _), (2, .int _), (3, .int _)]) ⟨rfl, rfl, rfl, rfl, trivial⟩ ?_
          exact ih _ _ _ _ hf hK
set_option maxHeartbeats 4000000 in
set_option maxRecDepth 20000 in
theorem k_X8_kinds {l : Launch} {w : nz_O} {q : Nat → Nat} (a0 : Int32) (x : nz_S) (o : Int32 × nz_S) (hf : f_X8_kinds a0 x = some o) : nz_MI l yX8_kinds (nz_T yX8_kinds cX8_kinds 4 (some .int)) (nz_R 0 0) w q nz_tM [.ref (q 0), .int a0] x o := by
  refine nz_enterI (by decide) rfl (Nat.le_of_ble_eq_true rfl) rfl rfl ?_
  intro κ E hw hlq hR
  subst hw; subst hlq
  unfold f_X8_kinds at hf
  refine nz_weak (lv' := [(0, .ref (q 0)), (1, .int a0)]) ⟨rfl, rfl, trivial⟩ ?_
  refine nz_iconst (pc := 0) (v := 0) E dX8_kinds_0 (by decide) ?_
  refine nz_istore_n (pc := 1) (i := 2) E dX8_kinds_1 rfl (by decide) rfl ?_
  refine nz_iconst (pc := 2) (v := 0) E dX8_kinds_2 (by decide) ?_
  refine nz_istore_n (pc := 3) (i := 3) E dX8_kinds_3 rfl (by decide) rfl ?_
  refine nz_weak (lv' := [(0, .ref (q 0)), (1, .int _), (2, .int _), (3, .int _)]) ⟨rfl, rfl, rfl, rfl, trivial⟩ ?_
  refine w_X8_kinds_4 _ E hR _ _ _ _ _ hf (fun u13 u14 x12 hf => ?_)
  refine nz_iload_n (pc := 45) (i := 2) E dX8_kinds_45 rfl rfl ?_
  exact nz_iret (pc := 46) E hR rfl hf dX8_kinds_46
def f_X8_deepest_4 : Nat → Int32 → Int32 → nz_S → (Int32 → Int32 → nz_S → Option (Int32 × nz_S)) → Option (Int32 × nz_S)
  | 0, _, _, _, _ => none
  | fu + 1, w1, w2, x, K =>
  if (12 : Int32) ≤ w2 then
    K w1 w2 x
  else
    nz_bnd (f_X8_depth  w2 x) fun r2 x3 =>
    if r2 ≤ w1 then
      let v6 : Int32 := w2 + 1
      f_X8_deepest_4 fu w1 v6 x3 K
    else
      let v7 : Int32 := w2 + 1
      f_X8_deepest_4 fu r2 v7 x3 K
def f_X8_deepest (x : nz_S) : Option (Int32 × nz_S) :=
  f_X8_deepest_4 nz_F (0 : Int32) (0 : Int32) x fun u9 u10 x8 =>
    some (u9, x8)
theorem ds_X8_deepest : nz_dsc yX8_deepest 0 := by unfold nz_dsc; decide +kernel
set_option maxHeartbeats 4000000 in
set_option maxRecDepth 20000 in
theorem w_X8_deepest_4 {κ : nz_C} {q : Nat → Nat} {o : Int32 × nz_S} (E : nz_Env κ q nz_tM 4 cX8_deepest RX8 (nz_T yX8_deepest cX8_deepest 4 (some .int)) (nz_R 1 23)) (hR : nz_RI κ q nz_tM .int o) : ∀ (fu : Nat) (w1 : Int32) (w2 : Int32) (x : nz_S) (K : Int32 → Int32 → nz_S → Option (Int32 × nz_S)), f_X8_deepest_4 fu w1 w2 x K = some o → (∀ (w1 : Int32) (w2 : Int32) (x : nz_S), K w1 w2 x = some o → nz_St κ q nz_tM 4 33 [(0, .ref (q 0)), (1, .int w1), (2, .int w2)] [] x) → nz_St κ q nz_tM 4 4 [(0, .ref (q 0)), (1, .int w1), (2, .int w2)] [] x := by
  intro fu
  induction fu with
  | zero => intro w1 w2 x K hf; rw [f_X8_deepest_4] at hf; cases hf
  | succ fu ih =>
    intro w1 w2 x K hf hK
    rw [f_X8_deepest_4] at hf
    refine nz_iload_n (pc := 4) (i := 2) E dX8_deepest_4 rfl rfl ?_
    refine nz_bipush (pc := 5) (v := 12) E dX8_deepest_5 (by decide) ?_
    refine nz_icmp_ge (pc := 7) (tgt := 33) E dX8_deepest_7 (by decide) (fun h1 => ?_) (fun h1 => ?_)
    · have hf := nz_ite_t hf h1
      refine nz_weak (lv' := [(0, .ref (q 0)), (1, .int _), (2, .int _)]) ⟨rfl, rfl, rfl, trivial⟩ ?_
      exact hK _ _ _ hf
    · have hf := nz_ite_f hf h1
      refine nz_aload_n (pc := 10) (i := 0) E dX8_deepest_10 rfl rfl ?_
      refine nz_iload_n (pc := 11) (i := 2) E dX8_deepest_11 rfl rfl ?_
      obtain ⟨r2, x3, h4, hf⟩ := nz_bnd_t hf
      refine nz_callVI (pc := 12) (c0 := 0) (As := [.int _]) E rfl rfl (k_X8_depth   _ _ _ h4) (nz_cwV E nz_w853 nz_w855 nz_w35 nz_w67 nz_w856 ds_X8_depth ⟨Nat.le_of_ble_eq_true rfl, Nat.le_of_ble_eq_true rfl⟩ rfl rfl) rfl rfl (Nat.le_of_ble_eq_true rfl) dX8_deepest_12 ?_
      refine nz_istore_n (pc := 15) (i := 3) E dX8_deepest_15 rfl (by decide) rfl ?_
      refine nz_iload_n (pc := 16) (i := 3) E dX8_deepest_16 rfl rfl ?_
      refine nz_iload_n (pc := 17) (i := 1) E dX8_deepest_17 rfl rfl ?_
      refine nz_icmp_le (pc := 18) (tgt := 25) E dX8_deepest_18 (by decide) (fun h5 => ?_) (fun h5 => ?_)
      · have hf := nz_ite_t hf h5
        refine nz_iload_n (pc := 25) (i := 1) E dX8_deepest_25 rfl rfl ?_
        refine nz_istore_n (pc := 26) (i := 1) E dX8_deepest_26 rfl (by decide) rfl ?_
        refine nz_iinc (pc := 27) (i := 2) (w := 1) E dX8_deepest_27 rfl (by decide) (by decide) rfl ?_
        refine nz_goto (pc := 30) (tgt := 4) E dX8_deepest_30 (by decide) ?_
        refine nz_weak (lv' := [(0, .ref (q 0)), (1, .int _), (2, .int _)]) ⟨rfl, rfl, rfl, trivial⟩ ?_
        exact ih _ _ _ _ hf hK
      · have hf := nz_ite_f hf h5
        refine nz_iload_n (pc := 21) (i := 3) E dX8_deepest_21 rfl rfl ?_
        refine nz_goto (pc := 22) (tgt := 26) E dX8_deepest_22 (by decide) ?_
        refine nz_istore_n (pc := 26) (i := 1) E dX8_deepest_26 rfl (by decide) rfl ?_
        refine nz_iinc (pc := 27) (i := 2) (w := 1) E dX8_deepest_27 rfl (by decide) (by decide) rfl ?_
        refine nz_goto (pc := 30) (tgt := 4) E dX8_deepest_30 (by decide) ?_
        refine nz_weak (lv' := [(0, .ref (q 0)), (1, .int _), (2, .int _)]) ⟨rfl, rfl, rfl, trivial⟩ ?_
        exact ih _ _ _ _ hf hK
set_option maxHeartbeats 4000000 in
set_option maxRecDepth 20000 in
theorem k_X8_deepest {l : Launch} {w : nz_O} {q : Nat → Nat} (x : nz_S) (o : Int32 × nz_S) (hf : f_X8_deepest x = some o) : nz_MI l yX8_deepest (nz_T yX8_deepest cX8_deepest 4 (some .int)) (nz_R 1 23) w q nz_tM [.ref (q 0)] x o := by
  refine nz_enterI (by decide) rfl (Nat.le_of_ble_eq_true rfl) rfl rfl ?_
  intro κ E hw hlq hR
  subst hw; subst hlq
  unfold f_X8_deepest at hf
  refine nz_weak (lv' := [(0, .ref (q 0))]) ⟨rfl, trivial⟩ ?_
  refine nz_iconst (pc := 0) (v := 0) E dX8_deepest_0 (by decide) ?_
  refine nz_istore_n (pc := 1) (i := 1) E dX8_deepest_1 rfl (by decide) rfl ?_
  refine nz_iconst (pc := 2) (v := 0) E dX8_deepest_2 (by decide) ?_
  refine nz_istore_n (pc := 3) (i := 2) E dX8_deepest_3 rfl (by decide) rfl ?_
  refine nz_weak (lv' := [(0, .ref (q 0)), (1, .int _), (2, .int _)]) ⟨rfl, rfl, rfl, trivial⟩ ?_
  refine w_X8_deepest_4 E hR _ _ _ _ _ hf (fun u9 u10 x8 hf => ?_)
  refine nz_iload_n (pc := 33) (i := 1) E dX8_deepest_33 rfl rfl ?_
  exact nz_iret (pc := 34) E hR rfl hf dX8_deepest_34
def f_X8_backArcs_14 (p : Nat) (c3 : Int32) : Nat → Int32 → Int32 → nz_S → (Int32 → Int32 → nz_S → Option (Int32 × nz_S)) → Option (Int32 × nz_S)
  | 0, _, _, _, _ => none
  | fu + 1, w2, w4, x, K =>
  let v3 : Int32 := ((13 : Int32) + c3)
  nz_chk (nz_in v3 61) <|
  if (x.1 p (v3).toNatClampNeg) ≤ w4 then
    K w2 w4 x
  else
    let v6 : Int32 := (((25 : Int32) + ((3 : Int32) * c3)) + w4)
    nz_chk (nz_in v6 61) <|
    nz_bnd (f_X8_isAbove  (x.1 p (v6).toNatClampNeg) c3 x) fun r8 x9 =>
    if r8 = (0 : Int32) then
      let v12 : Int32 := (w2 + (0 : Int32))
      let v13 : Int32 := w4 + 1
      f_X8_backArcs_14 p c3 fu v12 v13 x9 K
    else
      let v14 : Int32 := (w2 + (1 : Int32))
      let v15 : Int32 := w4 + 1
      f_X8_backArcs_14 p c3 fu v14 v15 x9 K
def f_X8_backArcs_4 (p : Nat) : Nat → Int32 → Int32 → nz_S → (Int32 → Int32 → nz_S → Option (Int32 × nz_S)) → Option (Int32 × nz_S)
  | 0, _, _, _, _ => none
  | fu + 1, w2, w3, x, K =>
  nz_chk (nz_in (0 : Int32) 61) <|
  if (x.1 p ((0 : Int32)).toNatClampNeg) ≤ w3 then
    K w2 w3 x
  else
    f_X8_backArcs_14 p w3 nz_F w2 (0 : Int32) x fun u17 u18 x16 =>
      let v19 : Int32 := w3 + 1
      f_X8_backArcs_4 p fu u17 v19 x16 K
def f_X8_backArcs (p : Nat) (x : nz_S) : Option (Int32 × nz_S) :=
  f_X8_backArcs_4 p nz_F (0 : Int32) (0 : Int32) x fun u21 u22 x20 =>
    some (u21, x20)
theorem ds_X8_backArcs : nz_dsc yX8_backArcs 1 := by unfold nz_dsc; decide +kernel
set_option maxHeartbeats 4000000 in
set_option maxRecDepth 20000 in
theorem w_X8_backArcs_14 {κ : nz_C} {q : Nat → Nat} {o : Int32 × nz_S} (p : Nat) (hp : nz_isP p) (c3 : Int32) (E : nz_Env κ q nz_tM 5 cX8_backArcs RX8 (nz_T yX8_backArcs cX8_backArcs 5 (some .int)) (nz_R 2 47)) (hR : nz_RI κ q nz_tM .int o) : ∀ (fu : Nat) (w2 : Int32) (w4 : Int32) (x : nz_S) (K : Int32 → Int32 → nz_S → Option (Int32 × nz_S)), f_X8_backArcs_14 p c3 fu w2 w4 x K = some o → (∀ (w2 : Int32) (w4 : Int32) (x : nz_S), K w2 w4 x = some o → nz_St κ q nz_tM 5 58 [(0, .ref (q 0)), (1, .ref (q p)), (2, .int w2), (3, .int c3), (4, .int w4)] [] x) → nz_St κ q nz_tM 5 14 [(0, .ref (q 0)), (1, .ref (q p)), (2, .int w2), (3, .int c3), (4, .int w4)] [] x := by
  intro fu
  induction fu with
  | zero => intro w2 w4 x K hf; rw [f_X8_backArcs_14] at hf; cases hf
  | succ fu ih =>
    intro w2 w4 x K hf hK
    rw [f_X8_backArcs_14] at hf
    refine nz_iload (pc := 14) (i := 4) E dX8_backArcs_14 rfl ?_
    refine nz_aload_n (pc := 16) (i := 1) E dX8_backArcs_16 rfl rfl ?_
    refine nz_bipush (pc := 17) (v := 13) E dX8_backArcs_17 (by decide) ?_
    refine nz_iload_n (pc := 19) (i := 3) E dX8_backArcs_19 rfl rfl ?_
    refine nz_iadd (pc := 20) E dX8_backArcs_20 ?_
    obtain ⟨h4, hf⟩ := nz_chk_t hf
    refine nz_iald (pc := 21) (c := p) E hp h4 dX8_backArcs_21 ?_
    refine nz_icmp_ge (pc := 22) (tgt := 58) E dX8_backArcs_22 (by decide) (fun h5 => ?_) (fun h5 => ?_)
    · have hf := nz_ite_t hf h5
      refine nz_weak (lv' := [(0, .ref (q 0)), (1, .ref (q p)), (2, .int _), (3, .int _), (4, .int _)]) ⟨rfl, rfl, rfl, rfl, rfl, trivial⟩ ?_
      exact hK _ _ _ hf
    · have hf := nz_ite_f hf h5
      refine nz_iload_n (pc := 25) (i := 2) E dX8_backArcs_25 rfl rfl ?_
      refine nz_aload_n (pc := 26) (i := 0) E dX8_backArcs_26 rfl rfl ?_
      refine nz_aload_n (pc := 27) (i := 1) E dX8_backArcs_27 rfl rfl ?_
      refine nz_bipush (pc := 28) (v := 25) E dX8_backArcs_28 (by decide) ?_
      refine nz_iconst (pc := 30) (v := 3) E dX8_backArcs_30 (by decide) ?_
      refine nz_iload_n (pc := 31) (i := 3) E dX8_backArcs_31 rfl rfl ?_
      refine nz_imul (pc := 32) E dX8_backArcs_32 ?_
      refine nz_iadd (pc := 33) E dX8_backArcs_33 ?_
      refine nz_iload (pc := 34) (i := 4) E dX8_backArcs_34 rfl ?_
      refine nz_iadd (pc := 36) E dX8_backArcs_36 ?_
      obtain ⟨h7, hf⟩ := nz_chk_t hf
      refine nz_iald (pc := 37) (c := p) E hp h7 dX8_backArcs_37 ?_
      refine nz_iload_n (pc := 38) (i := 3) E dX8_backArcs_38 rfl rfl ?_
      obtain ⟨r8, x9, h10, hf⟩ := nz_bnd_t hf
      refine nz_callVI (pc := 39) (c0 := 0) (As := [.int _, .int _]) E rfl rfl (k_X8_isAbove   _ _ _ _ h10) (nz_cwV E nz_w819 nz_w821 nz_w28 nz_w67 nz_w822 ds_X8_isAbove ⟨Nat.le_of_ble_eq_true rfl, Nat.le_of_ble_eq_true rfl⟩ rfl rfl) rfl rfl (Nat.le_of_ble_eq_true rfl) dX8_backArcs_39 ?_
      refine nz_if_eq (pc := 42) (tgt := 49) E dX8_backArcs_42 (by decide) (fun h11 => ?_) (fun h11 => ?_)
      · have hf := nz_ite_t hf h11
        refine nz_iconst (pc := 49) (v := 0) E dX8_backArcs_49 (by decide) ?_
        refine nz_iadd (pc := 50) E dX8_backArcs_50 ?_
        refine nz_istore_n (pc := 51) (i := 2) E dX8_backArcs_51 rfl (by decide) rfl ?_
        refine nz_iinc (pc := 52) (i := 4) (w := 1) E dX8_backArcs_52 rfl (by decide) (by decide) rfl ?_
        refine nz_goto (pc := 55) (tgt := 14) E dX8_backArcs_55 (by decide) ?_
        refine nz_weak (lv' := [(0, .ref (q 0)), (1, .ref (q p)), (2, .int _), (3, .int _), (4, .int _)]) ⟨rfl, rfl, rfl, rfl, rfl, trivial⟩ ?_
        exact ih _ _ _ _ hf hK
      · have hf := nz_ite_f hf h11
        refine nz_iconst (pc := 45) (v := 1) E dX8_backArcs_45 (by decide) ?_
        refine nz_goto (pc := 46) (tgt := 50) E dX8_backArcs_46 (by decide) ?_
        refine nz_iadd (pc := 50) E dX8_backArcs_50 ?_
        refine nz_istore_n (pc := 51) (i := 2) E dX8_backArcs_51 rfl (by decide) rfl ?_
        refine nz_iinc (pc := 52) (i := 4) (w := 1) E dX8_backArcs_52 rfl (by decide) (by decide) rfl ?_
        refine nz_goto (pc := 55) (tgt := 14) E dX8_backArcs_55 (by decide) ?_
        refine nz_weak (lv' := [(0, .ref (q 0)), (1, .ref (q p)), (2, .int _), (3, .int _), (4, .int _)]) ⟨rfl, rfl, rfl, rfl, rfl, trivial⟩ ?_
        exact ih _ _ _ _ hf hK
set_option maxHeartbeats 4000000 in
set_option maxRecDepth 20000 in
theorem w_X8_backArcs_4 {κ : nz_C} {q : Nat → Nat} {o : Int32 × nz_S} (p : Nat) (hp : nz_isP p) (E : nz_Env κ q nz_tM 5 cX8_backArcs RX8 (nz_T yX8_backArcs cX8_backArcs 5 (some .int)) (nz_R 2 47)) (hR : nz_RI κ q nz_tM .int o) : ∀ (fu : Nat) (w2 : Int32) (w3 : Int32) (x : nz_S) (K : Int32 → Int32 → nz_S → Option (Int32 × nz_S)), f_X8_backArcs_4 p fu w2 w3 x K = some o → (∀ (w2 : Int32) (w3 : Int32) (x : nz_S), K w2 w3 x = some o → nz_St κ q nz_tM 5 64 [(0, .ref (q 0)), (1, .ref (q p)), (2, .int w2), (3, .int w3)] [] x) → nz_St κ q nz_tM 5 4 [(0, .ref (q 0)), (1, .ref (q p)), (2, .int w2), (3, .int w3)] [] x := by
  intro fu
  induction fu with
  | zero => intro w2 w3 x K hf; rw [f_X8_backArcs_4] at hf; cases hf
  | succ fu ih =>
    intro w2 w3 x K hf hK
    rw [f_X8_backArcs_4] at hf
    refine nz_iload_n (pc := 4) (i := 3) E dX8_backArcs_4 rfl rfl ?_
    refine nz_aload_n (pc := 5) (i := 1) E dX8_backArcs_5 rfl rfl ?_
    refine nz_iconst (pc := 6) (v := 0) E dX8_backArcs_6 (by decide) ?_
    obtain ⟨h1, hf⟩ := nz_chk_t hf
    refine nz_iald (pc := 7) (c := p) E hp h1 dX8_backArcs_7 ?_
    refine nz_icmp_ge (pc := 8) (tgt := 64) E dX8_backArcs_8 (by decide) (fun h2 => ?_) (fun h2 => ?_)
    · have hf := nz_ite_t hf h2
      refine nz_weak (lv' := [(0, .ref (q 0)), (1, .ref (q p)), (2, .int _), (3, .int _)]) ⟨rfl, rfl, rfl, rfl, trivial⟩ ?_
      exact hK _ _ _ hf
    · have hf := nz_ite_f hf h2
      refine nz_iconst (pc := 11) (v := 0) E dX8_backArcs_11 (by decide) ?_
      refine nz_istore (pc := 12) (i := 4) E dX8_backArcs_12 (by decide) rfl ?_
      refine nz_weak (lv' := [(0, .ref (q 0)), (1, .ref (q p)), (2, .int _), (3, .int _), (4, .int _)]) ⟨rfl, rfl, rfl, rfl, rfl, trivial⟩ ?_
      refine w_X8_backArcs_14 p hp _ E hR _ _ _ _ _ hf (fun u17 u18 x16 hf => ?_)
      refine nz_iinc (pc := 58) (i := 3) (w := 1) E dX8_backArcs_58 rfl (by decide) (by decide) rfl ?_
      refine nz_goto (pc := 61) (tgt := 4) E dX8_backArcs_61 (by decide) ?_
      refine nz_weak (lv' := [(0, .ref (q 0)), (1, .ref (q p)), (2, .int _), (3, .int _)]) ⟨rfl, rfl, rfl, rfl, trivial⟩ ?_
      exact ih _ _ _ _ hf hK
set_option maxHeartbeats 4000000 in
set_option maxRecDepth 20000 in
theorem k_X8_backArcs {l : Launch} {w : nz_O} {q : Nat → Nat} (p : Nat) (hp : nz_isP p) (x : nz_S) (o : Int32 × nz_S) (hf : f_X8_backArcs p x = some o) : nz_MI l yX8_backArcs (nz_T yX8_backArcs cX8_backArcs 5 (some .int)) (nz_R 2 47) w q nz_tM [.ref (q 0), .ref (q p)] x o := by
  refine nz_enterI (by decide) rfl (Nat.le_of_ble_eq_true rfl) rfl rfl ?_
  intro κ E hw hlq hR
  subst hw; subst hlq
  unfold f_X8_backArcs at hf
  refine nz_weak (lv' := [(0, .ref (q 0)), (1, .ref (q p))]) ⟨rfl, rfl, trivial⟩ ?_
  refine nz_iconst (pc := 0) (v := 0) E dX8_backArcs_0 (by decide) ?_
  refine nz_istore_n (pc := 1) (i := 2) E dX8_backArcs_1 rfl (by decide) rfl ?_
  refine nz_iconst (pc := 2) (v := 0) E dX8_backArcs_2 (by decide) ?_
  refine nz_istore_n (pc := 3) (i := 3) E dX8_backArcs_3 rfl (by decide) rfl ?_
  refine nz_weak (lv' := [(0, .ref (q 0)), (1, .ref (q p)), (2, .int _), (3, .int _)]) ⟨rfl, rfl, rfl, rfl, trivial⟩ ?_
  refine w_X8_backArcs_4 p hp E hR _ _ _ _ _ hf (fun u21 u22 x20 hf => ?_)
  refine nz_iload_n (pc := 64) (i := 2) E dX8_backArcs_64 rfl rfl ?_
  exact nz_iret (pc := 65) E hR rfl hf dX8_backArcs_65
def f_X8_about (a0 : Int32) (x : nz_S) : Option (Int32 × nz_S) :=
  let x1 : nz_S := nz_put x 0 0 (0 : Int32)
  nz_bnd (f_X8_find 3  x1) fun r2 x3 =>
  if a0 = (0 : Int32) then
    nz_chk (nz_in (0 : Int32) 61) <|
    some ((x3.1 3 ((0 : Int32)).toNatClampNeg), x3)
  else
  if a0 = (1 : Int32) then
    nz_bnd (f_X8_arcs 3  x3) fun r8 x9 =>
    some (r8, x9)
  else
  if a0 = (2 : Int32) then
    some ((x3.1 0 16), x3)
  else
  if a0 = (3 : Int32) then
    nz_bnd (f_X8_kinds  (1 : Int32) x3) fun r13 x14 =>
    some (r13, x14)
  else
  if a0 = (4 : Int32) then
    nz_bnd (f_X8_kinds  (3 : Int32) x3) fun r17 x18 =>
    some (r17, x18)
  else
  if a0 = (5 : Int32) then
    nz_bnd (f_X8_deepest   x3) fun r21 x22 =>
    some (r21, x22)
  else
  if a0 = (6 : Int32) then
    nz_bnd (f_X8_isTame 3  x3) fun r25 x26 =>
    if r25 = (0 : Int32) then
      some ((0 : Int32), x26)
    else
      some ((1 : Int32), x26)
  else
  if a0 = (7 : Int32) then
    nz_bnd (f_X8_backArcs 3  x3) fun r30 x31 =>
    some (r30, x31)
  else
  if a0 = (8 : Int32) then
    some ((x3.1 0 8), x3)
  else
  if a0 = (9 : Int32) then
    some ((x3.1 0 11), x3)
  else
  if a0 = (10 : Int32) then
    some ((x3.1 0 2), x3)
  else
    some ((-2 : Int32), x3)
theorem ds_X8_about : nz_dsc yX8_about 1 := by unfold nz_dsc; decide +kernel
set_option maxHeartbeats 4000000 in
set_option maxRecDepth 20000 in
theorem k_X8_about {l : Launch} {w : nz_O} {q : Nat → Nat} (a0 : Int32) (x : nz_S) (o : Int32 × nz_S) (hf : f_X8_about a0 x = some o) : nz_MI l yX8_about (nz_T yX8_about cX8_about 2 (some .int)) (nz_R 5 124) w q nz_tM [.ref (q 0), .int a0] x o := by
  refine nz_enterI (by decide) rfl (Nat.le_of_ble_eq_true rfl) rfl rfl ?_
  intro κ E hw hlq hR
  subst hw; subst hlq
  unfold f_X8_about at hf
  refine nz_weak (lv' := [(0, .ref (q 0)), (1, .int a0)]) ⟨rfl, rfl, trivial⟩ ?_
  refine nz_aload_n (pc := 0) (i := 0) E dX8_about_0 rfl rfl ?_
  refine nz_iconst (pc := 1) (v := 0) E dX8_about_1 (by decide) ?_
  refine nz_putI (pc := 2) (c := 0) (kf := 0) E rfl rfl (nz_upT nz_uX8) (by decide) (List.mem_cons_of_mem _ nz_w676) rfl tyX8 tyX8_ok nmX8 rfl (tyX8_ok 0 (by decide)) rfl dX8_about_2 ?_
  refine nz_aload_n (pc := 5) (i := 0) E dX8_about_5 rfl rfl ?_
  refine nz_aload_n (pc := 6) (i := 0) E dX8_about_6 rfl rfl ?_
  refine nz_getR (pc := 7) (c := 0) (kf := 5) E rfl rfl (nz_upT nz_uX8) (by decide) (List.mem_cons_of_mem _ nz_w681) rfl rfl dX8_about_7 ?_
  obtain ⟨r2, x3, h4, hf⟩ := nz_bnd_t hf
  refine nz_callVV (pc := 10) (c0 := 0) (As := [.ref (q 3)]) E rfl rfl (k_X8_find 3 nz_p3 _ _ h4) (nz_cwV E nz_w800 nz_w802 nz_w24 nz_w67 nz_w803 ds_X8_find ⟨Nat.le_of_ble_eq_true rfl, Nat.le_of_ble_eq_true rfl⟩ rfl rfl) rfl rfl (Nat.le_of_ble_eq_true rfl) dX8_about_10 ?_
  refine nz_iload_n (pc := 13) (i := 1) E dX8_about_13 rfl rfl ?_
  by_cases h5 : a0 = 0
  · have hf := nz_ite_t hf h5
    refine nz_tabIn (pc := 14) (off := 58) (tgt := 72) E dX8_about_14 (by rw [h5]; decide) (by rw [h5]; decide) (by rw [h5]; rfl) (by decide) ?_
    refine nz_aload_n (pc := 72) (i := 0) E dX8_about_72 rfl rfl ?_
    refine nz_getR (pc := 73) (c := 0) (kf := 5) E rfl rfl (nz_upT nz_uX8) (by decide) (List.mem_cons_of_mem _ nz_w681) rfl rfl dX8_about_73 ?_
    refine nz_iconst (pc := 76) (v := 0) E dX8_about_76 (by decide) ?_
    obtain ⟨h6, hf⟩ := nz_chk_t hf
    refine nz_iald (pc := 77) (c := 3) E rfl h6 dX8_about_77 ?_
    exact nz_iret (pc := 78) E hR rfl hf dX8_about_78
  · have hf := nz_ite_f hf h5
    by_cases h7 : a0 = 1
    · have hf := nz_ite_t hf h7
      refine nz_tabIn (pc := 14) (off := 65) (tgt := 79) E dX8_about_14 (by rw [h7]; decide) (by rw [h7]; decide) (by rw [h7]; rfl) (by decide) ?_
      refine nz_aload_n (pc := 79) (i := 0) E dX8_about_79 rfl rfl ?_
      refine nz_getR (pc := 80) (c := 0) (kf := 5) E rfl rfl (nz_upT nz_uX8) (by decide) (List.mem_cons_of_mem _ nz_w681) rfl rfl dX8_about_80 ?_
      obtain ⟨r8, x9, h10, hf⟩ := nz_bnd_t hf
      refine nz_callSI (pc := 83) (As := [.ref (q 3)]) E (k_X8_arcs 3 nz_p3 _ _ h10) (nz_cwS E nz_w842 nz_w843 nz_w67 nz_w844 ds_X8_arcs ⟨Nat.le_of_ble_eq_true rfl, Nat.le_of_ble_eq_true rfl⟩ rfl rfl) rfl rfl (Nat.le_of_ble_eq_true rfl) dX8_about_83 ?_
      exact nz_iret (pc := 86) E hR rfl hf dX8_about_86
    · have hf := nz_ite_f hf h7
      by_cases h11 : a0 = 2
      · have hf := nz_ite_t hf h11
        refine nz_tabIn (pc := 14) (off := 73) (tgt := 87) E dX8_about_14 (by rw [h11]; decide) (by rw [h11]; decide) (by rw [h11]; rfl) (by decide) ?_
        refine nz_aload_n (pc := 87) (i := 0) E dX8_about_87 rfl rfl ?_
        refine nz_getI (pc := 88) (c := 0) (kf := 16) E rfl rfl (nz_upT nz_uX8) (by decide) (List.mem_cons_of_mem _ nz_w692) rfl rfl dX8_about_88 ?_
        exact nz_iret (pc := 91) E hR rfl hf dX8_about_91
      · have hf := nz_ite_f hf h11
        by_cases h12 : a0 = 3
        · have hf := nz_ite_t hf h12
          refine nz_tabIn (pc := 14) (off := 78) (tgt := 92) E dX8_about_14 (by rw [h12]; decide) (by rw [h12]; decide) (by rw [h12]; rfl) (by decide) ?_
          refine nz_aload_n (pc := 92) (i := 0) E dX8_about_92 rfl rfl ?_
          refine nz_iconst (pc := 93) (v := 1) E dX8_about_93 (by decide) ?_
          obtain ⟨r13, x14, h15, hf⟩ := nz_bnd_t hf
          refine nz_callVI (pc := 94) (c0 := 0) (As := [.int _]) E rfl rfl (k_X8_kinds   _ _ _ h15) (nz_cwV E nz_w845 nz_w847 nz_w33 nz_w67 nz_w848 ds_X8_kinds ⟨Nat.le_of_ble_eq_true rfl, Nat.le_of_ble_eq_true rfl⟩ rfl rfl) rfl rfl (Nat.le_of_ble_eq_true rfl) dX8_about_94 ?_
          exact nz_iret (pc := 97) E hR rfl hf dX8_about_97
        · have hf := nz_ite_f hf h12
          by_cases h16 : a0 = 4
          · have hf := nz_ite_t hf h16
            refine nz_tabIn (pc := 14) (off := 84) (tgt := 98) E dX8_about_14 (by rw [h16]; decide) (by rw [h16]; decide) (by rw [h16]; rfl) (by decide) ?_
            refine nz_aload_n (pc := 98) (i := 0) E dX8_about_98 rfl rfl ?_
            refine nz_iconst (pc := 99) (v := 3) E dX8_about_99 (by decide) ?_
            obtain ⟨r17, x18, h19, hf⟩ := nz_bnd_t hf
            refine nz_callVI (pc := 100) (c0 := 0) (As := [.int _]) E rfl rfl (k_X8_kinds   _ _ _ h19) (nz_cwV E nz_w845 nz_w847 nz_w33 nz_w67 nz_w848 ds_X8_kinds ⟨Nat.le_of_ble_eq_true rfl, Nat.le_of_ble_eq_true rfl⟩ rfl rfl) rfl rfl (Nat.le_of_ble_eq_true rfl) dX8_about_100 ?_
            exact nz_iret (pc := 103) E hR rfl hf dX8_about_103
          · have hf := nz_ite_f hf h16
            by_cases h20 : a0 = 5
            · have hf := nz_ite_t hf h20
              refine nz_tabIn (pc := 14) (off := 90) (tgt := 104) E dX8_about_14 (by rw [h20]; decide) (by rw [h20]; decide) (by rw [h20]; rfl) (by decide) ?_
              refine nz_aload_n (pc := 104) (i := 0) E dX8_about_104 rfl rfl ?_
              obtain ⟨r21, x22, h23, hf⟩ := nz_bnd_t hf
              refine nz_callVI (pc := 105) (c0 := 0) (As := []) E rfl rfl (k_X8_deepest   _ _ h23) (nz_cwV E nz_w849 nz_w851 nz_w34 nz_w67 nz_w852 ds_X8_deepest ⟨Nat.le_of_ble_eq_true rfl, Nat.le_of_ble_eq_true rfl⟩ rfl rfl) rfl rfl (Nat.le_of_ble_eq_true rfl) dX8_about_105 ?_
              exact nz_iret (pc := 108) E hR rfl hf dX8_about_108
            · have hf := nz_ite_f hf h20
              by_cases h24 : a0 = 6
              · have hf := nz_ite_t hf h24
                refine nz_tabIn (pc := 14) (off := 95) (tgt := 109) E dX8_about_14 (by rw [h24]; decide) (by rw [h24]; decide) (by rw [h24]; rfl) (by decide) ?_
                refine nz_aload_n (pc := 109) (i := 0) E dX8_about_109 rfl rfl ?_
                refine nz_aload_n (pc := 110) (i := 0) E dX8_about_110 rfl rfl ?_
                refine nz_getR (pc := 111) (c := 0) (kf := 5) E rfl rfl (nz_upT nz_uX8) (by decide) (List.mem_cons_of_mem _ nz_w681) rfl rfl dX8_about_111 ?_
                obtain ⟨r25, x26, h27, hf⟩ := nz_bnd_t hf
                refine nz_callVI (pc := 114) (c0 := 0) (As := [.ref (q 3)]) E rfl rfl (k_X8_isTame 3 nz_p3 _ _ h27) (nz_cwV E nz_w857 nz_w859 nz_w36 nz_w67 nz_w860 ds_X8_isTame ⟨Nat.le_of_ble_eq_true rfl, Nat.le_of_ble_eq_true rfl⟩ rfl rfl) rfl rfl (Nat.le_of_ble_eq_true rfl) dX8_about_114 ?_
                refine nz_if_eq (pc := 117) (tgt := 124) E dX8_about_117 (by decide) (fun h28 => ?_) (fun h28 => ?_)
                · have hf := nz_ite_t hf h28
                  refine nz_iconst (pc := 124) (v := 0) E dX8_about_124 (by decide) ?_
                  exact nz_iret (pc := 125) E hR rfl hf dX8_about_125
                · have hf := nz_ite_f hf h28
                  refine nz_iconst (pc := 120) (v := 1) E dX8_about_120 (by decide) ?_
                  refine nz_goto (pc := 121) (tgt := 125) E dX8_about_121 (by decide) ?_
                  exact nz_iret (pc := 125) E hR rfl hf dX8_about_125
              · have hf := nz_ite_f hf h24
                by_cases h29 : a0 = 7
                · have hf := nz_ite_t hf h29
                  refine nz_tabIn (pc := 14) (off := 112) (tgt := 126) E dX8_about_14 (by rw [h29]; decide) (by rw [h29]; decide) (by rw [h29]; rfl) (by decide) ?_
                  refine nz_aload_n (pc := 126) (i := 0) E dX8_about_126 rfl rfl ?_
                  refine nz_aload_n (pc := 127) (i := 0) E dX8_about_127 rfl rfl ?_
                  refine nz_getR (pc := 128) (c := 0) (kf := 5) E rfl rfl (nz_upT nz_uX8) (by decide) (List.mem_cons_of_mem _ nz_w681) rfl rfl dX8_about_128 ?_
                  obtain ⟨r30, x31, h32, hf⟩ := nz_bnd_t hf
                  refine nz_callVI (pc := 131) (c0 := 0) (As := [.ref (q 3)]) E rfl rfl (k_X8_backArcs 3 nz_p3 _ _ h32) (nz_cwV E nz_w867 nz_w869 nz_w37 nz_w67 nz_w870 ds_X8_backArcs ⟨Nat.le_of_ble_eq_true rfl, Nat.le_of_ble_eq_true rfl⟩ rfl rfl) rfl rfl (Nat.le_of_ble_eq_true rfl) dX8_about_131 ?_
                  exact nz_iret (pc := 134) E hR rfl hf dX8_about_134
                · have hf := nz_ite_f hf h29
                  by_cases h33 : a0 = 8
                  · have hf := nz_ite_t hf h33
                    refine nz_tabIn (pc := 14) (off := 121) (tgt := 135) E dX8_about_14 (by rw [h33]; decide) (by rw [h33]; decide) (by rw [h33]; rfl) (by decide) ?_
                    refine nz_aload_n (pc := 135) (i := 0) E dX8_about_135 rfl rfl ?_
                    refine nz_getI (pc := 136) (c := 0) (kf := 8) E rfl rfl (nz_upT nz_uX8) (by decide) (List.mem_cons_of_mem _ nz_w684) rfl rfl dX8_about_136 ?_
                    exact nz_iret (pc := 139) E hR rfl hf dX8_about_139
                  · have hf := nz_ite_f hf h33
                    by_cases h34 : a0 = 9
                    · have hf := nz_ite_t hf h34
                      refine nz_tabIn (pc := 14) (off := 126) (tgt := 140) E dX8_about_14 (by rw [h34]; decide) (by rw [h34]; decide) (by rw [h34]; rfl) (by decide) ?_
                      refine nz_aload_n (pc := 140) (i := 0) E dX8_about_140 rfl rfl ?_
                      refine nz_getI (pc := 141) (c := 0) (kf := 11) E rfl rfl (nz_upT nz_uX8) (by decide) (List.mem_cons_of_mem _ nz_w687) rfl rfl dX8_about_141 ?_
                      exact nz_iret (pc := 144) E hR rfl hf dX8_about_144
                    · have hf := nz_ite_f hf h34
                      by_cases h35 : a0 = 10
                      · have hf := nz_ite_t hf h35
                        refine nz_tabIn (pc := 14) (off := 131) (tgt := 145) E dX8_about_14 (by rw [h35]; decide) (by rw [h35]; decide) (by rw [h35]; rfl) (by decide) ?_
                        refine nz_aload_n (pc := 145) (i := 0) E dX8_about_145 rfl rfl ?_
                        refine nz_getI (pc := 146) (c := 0) (kf := 2) E rfl rfl (nz_upT nz_uX8) (by decide) (List.mem_cons_of_mem _ nz_w678) rfl rfl dX8_about_146 ?_
                        exact nz_iret (pc := 149) E hR rfl hf dX8_about_149
                      · have hf := nz_ite_f hf h35
                        have th5 : (a0).toInt ≠ 0 := fun e => h5 (nz_i32 (by rw [e]; decide))
                        have th7 : (a0).toInt ≠ 1 := fun e => h7 (nz_i32 (by rw [e]; decide))
                        have th11 : (a0).toInt ≠ 2 := fun e => h11 (nz_i32 (by rw [e]; decide))
                        have th12 : (a0).toInt ≠ 3 := fun e => h12 (nz_i32 (by rw [e]; decide))
                        have th16 : (a0).toInt ≠ 4 := fun e => h16 (nz_i32 (by rw [e]; decide))
                        have th20 : (a0).toInt ≠ 5 := fun e => h20 (nz_i32 (by rw [e]; decide))
                        have th24 : (a0).toInt ≠ 6 := fun e => h24 (nz_i32 (by rw [e]; decide))
                        have th29 : (a0).toInt ≠ 7 := fun e => h29 (nz_i32 (by rw [e]; decide))
                        have th33 : (a0).toInt ≠ 8 := fun e => h33 (nz_i32 (by rw [e]; decide))
                        have th34 : (a0).toInt ≠ 9 := fun e => h34 (nz_i32 (by rw [e]; decide))
                        have th35 : (a0).toInt ≠ 10 := fun e => h35 (nz_i32 (by rw [e]; decide))
                        refine nz_tabOut (pc := 14) (tgt := 150) E dX8_about_14 (by omega) (by decide) ?_
                        refine nz_bipush (pc := 150) (v := -2) E dX8_about_150 (by decide) ?_
                        exact nz_iret (pc := 152) E hR rfl hf dX8_about_152
