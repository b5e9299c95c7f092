def f_X5_depthOf_25 : Nat → Int32 → Int32 → Int32 → nz_S → (Int32 → Int32 → Int32 → nz_S → Option (Int32 × nz_S)) → Option (Int32 × nz_S)
  | 0, _, _, _, _, _ => none
  | fu + 1, w2, w3, w4, x, K =>
  if (12 : Int32) ≤ w4 then
    K w2 w3 w4 x
  else
    if w3 = (-9 : Int32) then
      K w2 w3 w4 x
    else
      let v7 : Int32 := w2 + 1
      nz_chk (nz_in w3 12) <|
      let v9 : Int32 := (x.1 18 (w3).toNatClampNeg)
      let v10 : Int32 := w4 + 1
      f_X5_depthOf_25 fu v7 v9 v10 x K
def f_X5_depthOf (a0 : Int32) (x : nz_S) : Option (Int32 × nz_S) :=
  nz_chk (nz_in a0 12) <|
  if (x.1 19 (a0).toNatClampNeg) = (0 : Int32) then
    nz_chk (nz_in a0 12) <|
    let v16 : Int32 := (x.1 18 (a0).toNatClampNeg)
    f_X5_depthOf_25 nz_F (0 : Int32) v16 (0 : Int32) x fun u18 u19 u20 x17 =>
      some (u18, x17)
  else
    nz_chk (nz_in a0 12) <|
    let v4 : Int32 := (x.1 18 (a0).toNatClampNeg)
    f_X5_depthOf_25 nz_F (1 : Int32) v4 (0 : Int32) x fun u12 u13 u14 x11 =>
      some (u12, x11)
theorem ds_X5_depthOf : nz_dsc yX5_depthOf 1 := by unfold nz_dsc; decide +kernel
set_option maxHeartbeats 4000000 in
set_option maxRecDepth 20000 in
theorem w_X5_depthOf_25 {κ : nz_C} {q : Nat → Nat} {o : Int32 × nz_S} (E : nz_Env κ q nz_tK 5 cX5_depthOf RX5 (nz_T yX5_depthOf cX5_depthOf 5 (some .int)) (nz_R 0 0)) (hR : nz_RI κ q nz_tK .int o) : ∀ (fu : Nat) (w2 : Int32) (w3 : Int32) (w4 : Int32) (x : nz_S) (K : Int32 → Int32 → Int32 → nz_S → Option (Int32 × nz_S)), f_X5_depthOf_25 fu w2 w3 w4 x K = some o → (∀ (w2 : Int32) (w3 : Int32) (w4 : Int32) (x : nz_S), K w2 w3 w4 x = some o → nz_St κ q nz_tK 5 54 [(0, .ref (q 11)), (2, .int w2), (3, .int w3), (4, .int w4)] [] x) → nz_St κ q nz_tK 5 25 [(0, .ref (q 11)), (2, .int w2), (3, .int w3), (4, .int w4)] [] x := by
  intro fu
  induction fu with
  | zero => intro w2 w3 w4 x K hf; rw [f_X5_depthOf_25] at hf; cases hf
  | succ fu ih =>
    intro w2 w3 w4 x K hf hK
    rw [f_X5_depthOf_25] at hf
    refine nz_iload (pc := 25) (i := 4) E dX5_depthOf_25 rfl ?_
    refine nz_bipush (pc := 27) (v := 12) E dX5_depthOf_27 (by decide) ?_
    refine nz_icmp_ge (pc := 29) (tgt := 54) E dX5_depthOf_29 (by decide) (fun h5 => ?_) (fun h5 => ?_)
    · have hf := nz_ite_t hf h5
      refine nz_weak (lv' := [(0, .ref (q 11)), (2, .int _), (3, .int _), (4, .int _)]) ⟨rfl, rfl, rfl, rfl, trivial⟩ ?_
      exact hK _ _ _ _ hf
    · have hf := nz_ite_f hf h5
      refine nz_iload_n (pc := 32) (i := 3) E dX5_depthOf_32 rfl rfl ?_
      refine nz_bipush (pc := 33) (v := -9) E dX5_depthOf_33 (by decide) ?_
      refine nz_icmp_eq (pc := 35) (tgt := 54) E dX5_depthOf_35 (by decide) (fun h6 => ?_) (fun h6 => ?_)
      · have hf := nz_ite_t hf h6
        refine nz_weak (lv' := [(0, .ref (q 11)), (2, .int _), (3, .int _), (4, .int _)]) ⟨rfl, rfl, rfl, rfl, trivial⟩ ?_
        exact hK _ _ _ _ hf
      · have hf := nz_ite_f hf h6
        refine nz_iinc (pc := 38) (i := 2) (w := 1) E dX5_depthOf_38 rfl (by decide) (by decide) rfl ?_
        refine nz_aload_n (pc := 41) (i := 0) E dX5_depthOf_41 rfl rfl ?_
        refine nz_getR (pc := 42) (c := 11) (kf := 6) E rfl rfl (nz_upT nz_uX5) (by decide) (List.mem_cons_of_mem _ nz_w139) rfl rfl dX5_depthOf_42 ?_
        refine nz_iload_n (pc := 45) (i := 3) E dX5_depthOf_45 rfl rfl ?_
        obtain ⟨h8, hf⟩ := nz_chk_t hf
        refine nz_iald (pc := 46) (c := 18) E rfl h8 dX5_depthOf_46 ?_
        refine nz_istore_n (pc := 47) (i := 3) E dX5_depthOf_47 rfl (by decide) rfl ?_
        refine nz_iinc (pc := 48) (i := 4) (w := 1) E dX5_depthOf_48 rfl (by decide) (by decide) rfl ?_
        refine nz_goto (pc := 51) (tgt := 25) E dX5_depthOf_51 (by decide) ?_
        refine nz_weak (lv' := [(0, .ref (q 11)), (2, .int _), (3, .int _), (4, .int _)]) ⟨rfl, rfl, rfl, rfl, trivial⟩ ?_
        exact ih _ _ _ _ _ hf hK
set_option maxHeartbeats 4000000 in
set_option maxRecDepth 20000 in
theorem k_X5_depthOf {l : Launch} {w : nz_O} {q : Nat → Nat} (a0 : Int32) (x : nz_S) (o : Int32 × nz_S) (hf : f_X5_depthOf a0 x = some o) : nz_MI l yX5_depthOf (nz_T yX5_depthOf cX5_depthOf 5 (some .int)) (nz_R 0 0) w q nz_tK [.ref (q 11), .int a0] x o := by
  refine nz_enterI (by decide) rfl (Nat.le_of_ble_eq_true rfl) rfl rfl ?_
  intro κ E hw hlq hR
  subst hw; subst hlq
  unfold f_X5_depthOf at hf
  refine nz_weak (lv' := [(0, .ref (q 11)), (1, .int a0)]) ⟨rfl, rfl, trivial⟩ ?_
  refine nz_aload_n (pc := 0) (i := 0) E dX5_depthOf_0 rfl rfl ?_
  refine nz_getR (pc := 1) (c := 11) (kf := 7) E rfl rfl (nz_upT nz_uX5) (by decide) (List.mem_cons_of_mem _ nz_w141) rfl rfl dX5_depthOf_1 ?_
  refine nz_iload_n (pc := 4) (i := 1) E dX5_depthOf_4 rfl rfl ?_
  obtain ⟨h1, hf⟩ := nz_chk_t hf
  refine nz_iald (pc := 5) (c := 19) E rfl h1 dX5_depthOf_5 ?_
  refine nz_if_ne (pc := 6) (tgt := 13) E dX5_depthOf_6 (by decide) (fun h2 => ?_) (fun h2 => ?_)
  · have hf := nz_ite_f hf h2
    refine nz_iconst (pc := 13) (v := 1) E dX5_depthOf_13 (by decide) ?_
    refine nz_istore_n (pc := 14) (i := 2) E dX5_depthOf_14 rfl (by decide) rfl ?_
    refine nz_aload_n (pc := 15) (i := 0) E dX5_depthOf_15 rfl rfl ?_
    refine nz_getR (pc := 16) (c := 11) (kf := 6) E rfl rfl (nz_upT nz_uX5) (by decide) (List.mem_cons_of_mem _ nz_w139) rfl rfl dX5_depthOf_16 ?_
    refine nz_iload_n (pc := 19) (i := 1) E dX5_depthOf_19 rfl rfl ?_
    obtain ⟨h3, hf⟩ := nz_chk_t hf
    refine nz_iald (pc := 20) (c := 18) E rfl h3 dX5_depthOf_20 ?_
    refine nz_istore_n (pc := 21) (i := 3) E dX5_depthOf_21 rfl (by decide) rfl ?_
    refine nz_iconst (pc := 22) (v := 0) E dX5_depthOf_22 (by decide) ?_
    refine nz_istore (pc := 23) (i := 4) E dX5_depthOf_23 (by decide) rfl ?_
    refine nz_weak (lv' := [(0, .ref (q 11)), (2, .int _), (3, .int _), (4, .int _)]) ⟨rfl, rfl, rfl, rfl, trivial⟩ ?_
    refine w_X5_depthOf_25 E hR _ _ _ _ _ _ hf (fun u12 u13 u14 x11 hf => ?_)
    refine nz_iload_n (pc := 54) (i := 2) E dX5_depthOf_54 rfl rfl ?_
    exact nz_iret (pc := 55) E hR rfl hf dX5_depthOf_55
  · have hf := nz_ite_t hf h2
    refine nz_iconst (pc := 9) (v := 0) E dX5_depthOf_9 (by decide) ?_
    refine nz_goto (pc := 10) (tgt := 14) E dX5_depthOf_10 (by decide) ?_
    refine nz_istore_n (pc := 14) (i := 2) E dX5_depthOf_14 rfl (by decide) rfl ?_
    refine nz_aload_n (pc := 15) (i := 0) E dX5_depthOf_15 rfl rfl ?_
    refine nz_getR (pc := 16) (c := 11) (kf := 6) E rfl rfl (nz_upT nz_uX5) (by decide) (List.mem_cons_of_mem _ nz_w139) rfl rfl dX5_depthOf_16 ?_
    refine nz_iload_n (pc := 19) (i := 1) E dX5_depthOf_19 rfl rfl ?_
    obtain ⟨h15, hf⟩ := nz_chk_t hf
    refine nz_iald (pc := 20) (c := 18) E rfl h15 dX5_depthOf_20 ?_
    refine nz_istore_n (pc := 21) (i := 3) E dX5_depthOf_21 rfl (by decide) rfl ?_
    refine nz_iconst (pc := 22) (v := 0) E dX5_depthOf_22 (by decide) ?_
    refine nz_istore (pc := 23) (i := 4) E dX5_depthOf_23 (by decide) rfl ?_
    refine nz_weak (lv' := [(0, .ref (q 11)), (2, .int _), (3, .int _), (4, .int _)]) ⟨rfl, rfl, rfl, rfl, trivial⟩ ?_
    refine w_X5_depthOf_25 E hR _ _ _ _ _ _ hf (fun u18 u19 u20 x17 hf => ?_)
    refine nz_iload_n (pc := 54) (i := 2) E dX5_depthOf_54 rfl rfl ?_
    exact nz_iret (pc := 55) E hR rfl hf dX5_depthOf_55
def f_X5_greatestDepth_4 : Nat → Int32 → Int32 → nz_S → (Int32 → Int32 → nz_S → Option (Int32 × nz_S)) → Option (Int32 × nz_S)
  | 0, _, _, _, _ => none
  | fu + 1, w1, w2, x, K =>
  if (12 : Int32) ≤ w2 then
    K w1 w2 x
  else
    nz_bnd (f_X5_depthOf  w2 x) fun r2 x3 =>
    let v5 : Int32 := (if w1 < r2 then r2 else w1)
    let v6 : Int32 := w2 + 1
    f_X5_greatestDepth_4 fu v5 v6 x3 K
def f_X5_greatestDepth (x : nz_S) : Option (Int32 × nz_S) :=
  f_X5_greatestDepth_4 nz_F (0 : Int32) (0 : Int32) x fun u8 u9 x7 =>
    some (u8, x7)
theorem ds_X5_greatestDepth : nz_dsc yX5_greatestDepth 0 := by unfold nz_dsc; decide +kernel
set_option maxHeartbeats 4000000 in
set_option maxRecDepth 20000 in
theorem w_X5_greatestDepth_4 {κ : nz_C} {q : Nat → Nat} {o : Int32 × nz_S} (E : nz_Env κ q nz_tK 3 cX5_greatestDepth RX5 (nz_T yX5_greatestDepth cX5_greatestDepth 3 (some .int)) (nz_R 1 30)) (hR : nz_RI κ q nz_tK .int o) : ∀ (fu : Nat) (w1 : Int32) (w2 : Int32) (x : nz_S) (K : Int32 → Int32 → nz_S → Option (Int32 × nz_S)), f_X5_greatestDepth_4 fu w1 w2 x K = some o → (∀ (w1 : Int32) (w2 : Int32) (x : nz_S), K w1 w2 x = some o → nz_St κ q nz_tK 3 26 [(0, .ref (q 11)), (1, .int w1), (2, .int w2)] [] x) → nz_St κ q nz_tK 3 4 [(0, .ref (q 11)), (1, .int w1), (2, .int w2)] [] x := by
  intro fu
  induction fu with
  | zero => intro w1 w2 x K hf; rw [f_X5_greatestDepth_4] at hf; cases hf
  | succ fu ih =>
    intro w1 w2 x K hf hK
    rw [f_X5_greatestDepth_4] at hf
    refine nz_iload_n (pc := 4) (i := 2) E dX5_greatestDepth_4 rfl rfl ?_
    refine nz_bipush (pc := 5) (v := 12) E dX5_greatestDepth_5 (by decide) ?_
    refine nz_icmp_ge (pc := 7) (tgt := 26) E dX5_greatestDepth_7 (by decide) (fun h1 => ?_) (fun h1 => ?_)
    · have hf := nz_ite_t hf h1
      refine nz_weak (lv' := [(0, .ref (q 11)), (1, .int _), (2, .int _)]) ⟨rfl, rfl, rfl, trivial⟩ ?_
      exact hK _ _ _ hf
    · have hf := nz_ite_f hf h1
      refine nz_iload_n (pc := 10) (i := 1) E dX5_greatestDepth_10 rfl rfl ?_
      refine nz_aload_n (pc := 11) (i := 0) E dX5_greatestDepth_11 rfl rfl ?_
      refine nz_iload_n (pc := 12) (i := 2) E dX5_greatestDepth_12 rfl rfl ?_
      obtain ⟨r2, x3, h4, hf⟩ := nz_bnd_t hf
      refine nz_callVI (pc := 13) (c0 := 11) (As := [.int _]) E rfl rfl (k_X5_depthOf   _ _ _ h4) (nz_cwV E nz_w397 nz_w398 nz_w399 nz_w61 nz_w400 ds_X5_depthOf ⟨Nat.le_of_ble_eq_true rfl, Nat.le_of_ble_eq_true rfl⟩ rfl rfl) rfl rfl (Nat.le_of_ble_eq_true rfl) dX5_greatestDepth_13 ?_
      refine nz_mmax (pc := 16) E nz_w401 nz_w185 nz_w64 nz_w186 (by decide) (by decide) dX5_greatestDepth_16 ?_
      refine nz_istore_n (pc := 19) (i := 1) E dX5_greatestDepth_19 rfl (by decide) rfl ?_
      refine nz_iinc (pc := 20) (i := 2) (w := 1) E dX5_greatestDepth_20 rfl (by decide) (by decide) rfl ?_
      refine nz_goto (pc := 23) (tgt := 4) E dX5_greatestDepth_23 (by decide) ?_
      refine nz_weak (lv' := [(0, .ref (q 11)), (1, .int _), (2, .int _)]) ⟨rfl, rfl, rfl, trivial⟩ ?_
      exact ih _ _ _ _ hf hK
set_option maxHeartbeats 4000000 in
set_option maxRecDepth 20000 in
theorem k_X5_greatestDepth {l : Launch} {w : nz_O} {q : Nat → Nat} (x : nz_S) (o : Int32 × nz_S) (hf : f_X5_greatestDepth x = some o) : nz_MI l yX5_greatestDepth (nz_T yX5_greatestDepth cX5_greatestDepth 3 (some .int)) (nz_R 1 30) w q nz_tK [.ref (q 11)] x o := by
  refine nz_enterI (by decide) rfl (Nat.le_of_ble_eq_true rfl) rfl rfl ?_
  intro κ E hw hlq hR
  subst hw; subst hlq
  unfold f_X5_greatestDepth at hf
  refine nz_weak (lv' := [(0, .ref (q 11))]) ⟨rfl, trivial⟩ ?_
  refine nz_iconst (pc := 0) (v := 0) E dX5_greatestDepth_0 (by decide) ?_
  refine nz_istore_n (pc := 1) (i := 1) E dX5_greatestDepth_1 rfl (by decide) rfl ?_
  refine nz_iconst (pc := 2) (v := 0) E dX5_greatestDepth_2 (by decide) ?_
  refine nz_istore_n (pc := 3) (i := 2) E dX5_greatestDepth_3 rfl (by decide) rfl ?_
  refine nz_weak (lv' := [(0, .ref (q 11)), (1, .int _), (2, .int _)]) ⟨rfl, rfl, rfl, trivial⟩ ?_
  refine w_X5_greatestDepth_4 E hR _ _ _ _ _ hf (fun u8 u9 x7 hf => ?_)
  refine nz_iload_n (pc := 26) (i := 1) E dX5_greatestDepth_26 rfl rfl ?_
  exact nz_iret (pc := 27) E hR rfl hf dX5_greatestDepth_27
def f_X5_reachedWithout_16 (c2 : Int32) : Nat → Int32 → Int32 → Int32 → nz_S → (Int32 → Int32 → Int32 → nz_S → Option (Int32 × nz_S)) → Option (Int32 × nz_S)
  | 0, _, _, _, _, _ => none
  | fu + 1, w3, w4, w5, x, K =>
  if (12 : Int32) ≤ w5 then
    K w3 w4 w5 x
  else
    if (w3 &&& (w4 ^^^ (-1 : Int32))) = (0 : Int32) then
      K w3 w4 w5 x
    else
      nz_bnd (f_J6_numberOfTrailingZeros_0f7a4  (w3 &&& (w4 ^^^ (-1 : Int32))) x) fun r5 x6 =>
      let v8 : Int32 := (w4 ||| ((1 : Int32) <<< (r5 &&& 31)))
      nz_chk (nz_in r5 12) <|
      let v10 : Int32 := (w3 ||| ((x6.1 15 (r5).toNatClampNeg) &&& c2))
      let v11 : Int32 := w5 + 1
      f_X5_reachedWithout_16 c2 fu v10 v8 v11 x6 K
def f_X5_reachedWithout (a0 : Int32) (x : nz_S) : Option (Int32 × nz_S) :=
  let v1 : Int32 := (((1 : Int32) <<< (a0 &&& 31)) ^^^ (-1 : Int32))
  let v2 : Int32 := ((1 : Int32) &&& v1)
  f_X5_reachedWithout_16 v1 nz_F v2 (0 : Int32) (0 : Int32) x fun u13 u14 u15 x12 =>
    some (u13, x12)
theorem ds_X5_reachedWithout : nz_dsc yX5_reachedWithout 1 := by unfold nz_dsc; decide +kernel
set_option maxHeartbeats 4000000 in
set_option maxRecDepth 20000 in
theorem w_X5_reachedWithout_16 {κ : nz_C} {q : Nat → Nat} {o : Int32 × nz_S} (c2 : Int32) (E : nz_Env κ q nz_tK 7 cX5_reachedWithout RX5 (nz_T yX5_reachedWithout cX5_reachedWithout 7 (some .int)) (nz_R 1 21)) (hR : nz_RI κ q nz_tK .int o) : ∀ (fu : Nat) (w3 : Int32) (w4 : Int32) (w5 : Int32) (x : nz_S) (K : Int32 → Int32 → Int32 → nz_S → Option (Int32 × nz_S)), f_X5_reachedWithout_16 c2 fu w3 w4 w5 x K = some o → (∀ (w3 : Int32) (w4 : Int32) (w5 : Int32) (x : nz_S), K w3 w4 w5 x = some o → nz_St κ q nz_tK 7 70 [(0, .ref (q 11)), (2, .int c2), (3, .int w3), (4, .int w4), (5, .int w5)] [] x) → nz_St κ q nz_tK 7 16 [(0, .ref (q 11)), (2, .int c2), (3, .int w3), (4, .int w4), (5, .int w5)] [] x := by
  intro fu
  induction fu with
  | zero => intro w3 w4 w5 x K hf; rw [f_X5_reachedWithout_16] at hf; cases hf
  | succ fu ih =>
    intro w3 w4 w5 x K hf hK
    rw [f_X5_reachedWithout_16] at hf
    refine nz_iload (pc := 16) (i := 5) E dX5_reachedWithout_16 rfl ?_
    refine nz_bipush (pc := 18) (v := 12) E dX5_reachedWithout_18 (by decide) ?_
    refine nz_icmp_ge (pc := 20) (tgt := 70) E dX5_reachedWithout_20 (by decide) (fun h3 => ?_) (fun h3 => ?_)
    · have hf := nz_ite_t hf h3
      refine nz_weak (lv' := [(0, .ref (q 11)), (2, .int _), (3, .int _), (4, .int _), (5, .int _)]) ⟨rfl, rfl, rfl, rfl, rfl, trivial⟩ ?_
      exact hK _ _ _ _ hf
    · have hf := nz_ite_f hf h3
      refine nz_iload_n (pc := 23) (i := 3) E dX5_reachedWithout_23 rfl rfl ?_
      refine nz_iload (pc := 24) (i := 4) E dX5_reachedWithout_24 rfl ?_
      refine nz_iconst (pc := 26) (v := -1) E dX5_reachedWithout_26 (by decide) ?_
      refine nz_ixor (pc := 27) E dX5_reachedWithout_27 ?_
      refine nz_iand (pc := 28) E dX5_reachedWithout_28 ?_
      refine nz_if_eq (pc := 29) (tgt := 70) E dX5_reachedWithout_29 (by decide) (fun h4 => ?_) (fun h4 => ?_)
      · have hf := nz_ite_t hf h4
        refine nz_weak (lv' := [(0, .ref (q 11)), (2, .int _), (3, .int _), (4, .int _), (5, .int _)]) ⟨rfl, rfl, rfl, rfl, rfl, trivial⟩ ?_
        exact hK _ _ _ _ hf
      · have hf := nz_ite_f hf h4
        refine nz_iload_n (pc := 32) (i := 3) E dX5_reachedWithout_32 rfl rfl ?_
        refine nz_iload (pc := 33) (i := 4) E dX5_reachedWithout_33 rfl ?_
        refine nz_iconst (pc := 35) (v := -1) E dX5_reachedWithout_35 (by decide) ?_
        refine nz_ixor (pc := 36) E dX5_reachedWithout_36 ?_
        refine nz_iand (pc := 37) E dX5_reachedWithout_37 ?_
        obtain ⟨r5, x6, h7, hf⟩ := nz_bnd_t hf
        refine nz_callSI (pc := 38) (As := [.int _]) E (k_J6_numberOfTrailingZeros_0f7a4   _ _ _ h7) (nz_cwS E nz_w381 nz_w382 nz_w70 nz_w383 ds_J6_numberOfTrailingZeros_0f7a4 ⟨Nat.le_of_ble_eq_true rfl, Nat.le_of_ble_eq_true rfl⟩ rfl rfl) rfl rfl (Nat.le_of_ble_eq_true rfl) dX5_reachedWithout_38 ?_
        refine nz_istore (pc := 41) (i := 6) E dX5_reachedWithout_41 (by decide) rfl ?_
        refine nz_iload (pc := 43) (i := 4) E dX5_reachedWithout_43 rfl ?_
        refine nz_iconst (pc := 45) (v := 1) E dX5_reachedWithout_45 (by decide) ?_
        refine nz_iload (pc := 46) (i := 6) E dX5_reachedWithout_46 rfl ?_
        refine nz_ishl (pc := 48) E dX5_reachedWithout_48 ?_
        refine nz_ior (pc := 49) E dX5_reachedWithout_49 ?_
        refine nz_istore (pc := 50) (i := 4) E dX5_reachedWithout_50 (by decide) rfl ?_
        refine nz_iload_n (pc := 52) (i := 3) E dX5_reachedWithout_52 rfl rfl ?_
        refine nz_aload_n (pc := 53) (i := 0) E dX5_reachedWithout_53 rfl rfl ?_
        refine nz_getR (pc := 54) (c := 11) (kf := 3) E rfl rfl (nz_upT nz_uX5) (by decide) (List.mem_cons_of_mem _ nz_w134) rfl rfl dX5_reachedWithout_54 ?_
        refine nz_iload (pc := 57) (i := 6) E dX5_reachedWithout_57 rfl ?_
        obtain ⟨h9, hf⟩ := nz_chk_t hf
        refine nz_iald (pc := 59) (c := 15) E rfl h9 dX5_reachedWithout_59 ?_
        refine nz_iload_n (pc := 60) (i := 2) E dX5_reachedWithout_60 rfl rfl ?_
        refine nz_iand (pc := 61) E dX5_reachedWithout_61 ?_
        refine nz_ior (pc := 62) E dX5_reachedWithout_62 ?_
        refine nz_istore_n (pc := 63) (i := 3) E dX5_reachedWithout_63 rfl (by decide) rfl ?_
        refine nz_iinc (pc := 64) (i := 5) (w := 1) E dX5_reachedWithout_64 rfl (by decide) (by decide) rfl ?_
        refine nz_goto (pc := 67) (tgt := 16) E dX5_reachedWithout_67 (by decide) ?_
        refine nz_weak (lv' := [(0, .ref (q 11)), (2, .int _), (3, .int _), (4, .int _), (5, .int _)]) ⟨rfl, rfl, rfl, rfl, rfl, trivial⟩ ?_
        exact ih _ _ _ _ _ hf hK
set_option maxHeartbeats 4000000 in
set_option maxRecDepth 20000 in
theorem k_X5_reachedWithout {l : Launch} {w : nz_O} {q : Nat → Nat} (a0 : Int32) (x : nz_S) (o : Int32 × nz_S) (hf : f_X5_reachedWithout a0 x = some o) : nz_MI l yX5_reachedWithout (nz_T yX5_reachedWithout cX5_reachedWithout 7 (some .int)) (nz_R 1 21) w q nz_tK [.ref (q 11), .int a0] x o := by
  refine nz_enterI (by decide) rfl (Nat.le_of_ble_eq_true rfl) rfl rfl ?_
  intro κ E hw hlq hR
  subst hw; subst hlq
  unfold f_X5_reachedWithout at hf
  refine nz_weak (lv' := [(0, .ref (q 11)), (1, .int a0)]) ⟨rfl, rfl, trivial⟩ ?_
  refine nz_iconst (pc := 0) (v := 1) E dX5_reachedWithout_0 (by decide) ?_
  refine nz_iload_n (pc := 1) (i := 1) E dX5_reachedWithout_1 rfl rfl ?_
  refine nz_ishl (pc := 2) E dX5_reachedWithout_2 ?_
  refine nz_iconst (pc := 3) (v := -1) E dX5_reachedWithout_3 (by decide) ?_
  refine nz_ixor (pc := 4) E dX5_reachedWithout_4 ?_
  refine nz_istore_n (pc := 5) (i := 2) E dX5_reachedWithout_5 rfl (by decide) rfl ?_
  refine nz_iconst (pc := 6) (v := 1) E dX5_reachedWithout_6 (by decide) ?_
  refine nz_iload_n (pc := 7) (i := 2) E dX5_reachedWithout_7 rfl rfl ?_
  refine nz_iand (pc := 8) E dX5_reachedWithout_8 ?_
  refine nz_istore_n (pc := 9) (i := 3) E dX5_reachedWithout_9 rfl (by decide) rfl ?_
  refine nz_iconst (pc := 10) (v := 0) E dX5_reachedWithout_10 (by decide) ?_
  refine nz_istore (pc := 11) (i := 4) E dX5_reachedWithout_11 (by decide) rfl ?_
  refine nz_iconst (pc := 13) (v := 0) E dX5_reachedWithout_13 (by decide) ?_
  refine nz_istore (pc := 14) (i := 5) E dX5_reachedWithout_14 (by decide) rfl ?_
  refine nz_weak (lv' := [(0, .ref (q 11)), (2, .int _), (3, .int _), (4, .int _), (5, .int _)]) ⟨rfl, rfl, rfl, rfl, rfl, trivial⟩ ?_
  refine w_X5_reachedWithout_16 _ E hR _ _ _ _ _ _ hf (fun u13 u14 u15 x12 hf => ?_)
  refine nz_iload_n (pc := 70) (i := 3) E dX5_reachedWithout_70 rfl rfl ?_
  exact nz_iret (pc := 71) E hR rfl hf dX5_reachedWithout_71
def f_X5_passedBy (a0 : Int32) (x : nz_S) : Option (Int32 × nz_S) :=
  nz_bnd (f_X5_hasOrder  a0 x) fun r1 x2 =>
  if r1 = (0 : Int32) then
    some ((0 : Int32), x2)
  else
    nz_bnd (f_X5_reachedWithout  a0 x2) fun r5 x6 =>
    some (((x2.1 11 9) &&& (r5 ^^^ (-1 : Int32))), x6)
theorem ds_X5_passedBy : nz_dsc yX5_passedBy 1 := by unfold nz_dsc; decide +kernel
set_option maxHeartbeats 4000000 in
set_option maxRecDepth 20000 in
theorem k_X5_passedBy {l : Launch} {w : nz_O} {q : Nat → Nat} (a0 : Int32) (x : nz_S) (o : Int32 × nz_S) (hf : f_X5_passedBy a0 x = some o) : nz_MI l yX5_passedBy (nz_T yX5_passedBy cX5_passedBy 2 (some .int)) (nz_R 2 47) w q nz_tK [.ref (q 11), .int a0] x o := by
  refine nz_enterI (by decide) rfl (Nat.le_of_ble_eq_true rfl) rfl rfl ?_
  intro κ E hw hlq hR
  subst hw; subst hlq
  unfold f_X5_passedBy at hf
  refine nz_weak (lv' := [(0, .ref (q 11)), (1, .int a0)]) ⟨rfl, rfl, trivial⟩ ?_
  refine nz_aload_n (pc := 0) (i := 0) E dX5_passedBy_0 rfl rfl ?_
  refine nz_iload_n (pc := 1) (i := 1) E dX5_passedBy_1 rfl rfl ?_
  obtain ⟨r1, x2, h3, hf⟩ := nz_bnd_t hf
  refine nz_callVI (pc := 2) (c0 := 11) (As := [.int _]) E rfl rfl (k_X5_hasOrder   _ _ _ h3) (nz_cwV E nz_w361 nz_w362 nz_w363 nz_w61 nz_w364 ds_X5_hasOrder ⟨Nat.le_of_ble_eq_true rfl, Nat.le_of_ble_eq_true rfl⟩ rfl rfl) rfl rfl (Nat.le_of_ble_eq_true rfl) dX5_passedBy_2 ?_
  refine nz_if_eq (pc := 5) (tgt := 23) E dX5_passedBy_5 (by decide) (fun h4 => ?_) (fun h4 => ?_)
  · have hf := nz_ite_t hf h4
    refine nz_iconst (pc := 23) (v := 0) E dX5_passedBy_23 (by decide) ?_
    exact nz_iret (pc := 24) E hR rfl hf dX5_passedBy_24
  · have hf := nz_ite_f hf h4
    refine nz_aload_n (pc := 8) (i := 0) E dX5_passedBy_8 rfl rfl ?_
    refine nz_getI (pc := 9) (c := 11) (kf := 9) E rfl rfl (nz_upT nz_uX5) (by decide) (List.mem_cons_of_mem _ nz_w145) rfl rfl dX5_passedBy_9 ?_
    refine nz_aload_n (pc := 12) (i := 0) E dX5_passedBy_12 rfl rfl ?_
    refine nz_iload_n (pc := 13) (i := 1) E dX5_passedBy_13 rfl rfl ?_
    obtain ⟨r5, x6, h7, hf⟩ := nz_bnd_t hf
    refine nz_callVI (pc := 14) (c0 := 11) (As := [.int _]) E rfl rfl (k_X5_reachedWithout   _ _ _ h7) (nz_cwV E nz_w410 nz_w412 nz_w7 nz_w61 nz_w413 ds_X5_reachedWithout ⟨Nat.le_of_ble_eq_true rfl, Nat.le_of_ble_eq_true rfl⟩ rfl rfl) rfl rfl (Nat.le_of_ble_eq_true rfl) dX5_passedBy_14 ?_
    refine nz_iconst (pc := 17) (v := -1) E dX5_passedBy_17 (by decide) ?_
    refine nz_ixor (pc := 18) E dX5_passedBy_18 ?_
    refine nz_iand (pc := 19) E dX5_passedBy_19 ?_
    refine nz_goto (pc := 20) (tgt := 24) E dX5_passedBy_20 (by decide) ?_
    exact nz_iret (pc := 24) E hR rfl hf dX5_passedBy_24
def f_X5_isTame_2 : Nat → Int32 → nz_S → (Int32 → nz_S → Option (Int32 × nz_S)) → Option (Int32 × nz_S)
  | 0, _, _, _ => none
  | fu + 1, w1, x, K =>
  if (x.1 11 8) ≤ w1 then
    K w1 x
  else
    nz_chk (nz_in w1 12) <|
    let v3 : Int32 := (x.1 13 (w1).toNatClampNeg)
    nz_chk (nz_in v3 12) <|
    if (x.1 16 (v3).toNatClampNeg) = (0 : Int32) then
      let v6 : Int32 := w1 + 1
      f_X5_isTame_2 fu v6 x K
    else
      nz_chk (nz_in v3 12) <|
      nz_bnd (f_X5_passedBy  v3 x) fun r8 x9 =>
      if ((x.1 16 (v3).toNatClampNeg) &&& (r8 ^^^ (-1 : Int32))) = (0 : Int32) then
        let v12 : Int32 := w1 + 1
        f_X5_isTame_2 fu v12 x9 K
      else
        some ((0 : Int32), x9)
def f_X5_isTame (x : nz_S) : Option (Int32 × nz_S) :=
  f_X5_isTame_2 nz_F (0 : Int32) x fun u14 x13 =>
    some ((1 : Int32), x13)
theorem ds_X5_isTame : nz_dsc yX5_isTame 0 := by unfold nz_dsc; decide +kernel
set_option maxHeartbeats 4000000 in
set_option maxRecDepth 20000 in
theorem w_X5_isTame_2 {κ : nz_C} {q : Nat → Nat} {o : Int32 × nz_S} (E : nz_Env κ q nz_tK 3 cX5_isTame RX5 (nz_T yX5_isTame cX5_isTame 3 (some .boolean)) (nz_R 3 68)) (hR : nz_RI κ q nz_tK .boolean o) : ∀ (fu : Nat) (w1 : Int32) (x : nz_S) (K : Int32 → nz_S → Option (Int32 × nz_S)), f_X5_isTame_2 fu w1 x K = some o → (∀ (w1 : Int32) (x : nz_S), K w1 x = some o → nz_St κ q nz_tK 3 51 [(0, .ref (q 11)), (1, .int w1)] [] x) → nz_St κ q nz_tK 3 2 [(0, .ref (q 11)), (1, .int w1)] [] x := by
  intro fu
  induction fu with
  | zero => intro w1 x K hf; rw [f_X5_isTame_2] at hf; cases hf
  | succ fu ih =>
    intro w1 x K hf hK
    rw [f_X5_isTame_2] at hf
    refine nz_iload_n (pc := 2) (i := 1) E dX5_isTame_2 rfl rfl ?_
    refine nz_aload_n (pc := 3) (i := 0) E dX5_isTame_3 rfl rfl ?_
    refine nz_getI (pc := 4) (c := 11) (kf := 8) E rfl rfl (nz_upT nz_uX5) (by decide) (List.mem_cons_of_mem _ nz_w143) rfl rfl dX5_isTame_4 ?_
    refine nz_icmp_ge (pc := 7) (tgt := 51) E dX5_isTame_7 (by decide) (fun h1 => ?_) (fun h1 => ?_)
    · have hf := nz_ite_t hf h1
      refine nz_weak (lv' := [(0, .ref (q 11)), (1, .int _)]) ⟨rfl, rfl, trivial⟩ ?_
      exact hK _ _ hf
    · have hf := nz_ite_f hf h1
      refine nz_aload_n (pc := 10) (i := 0) E dX5_isTame_10 rfl rfl ?_
      refine nz_getR (pc := 11) (c := 11) (kf := 1) E rfl rfl (nz_upT nz_uX5) (by decide) (List.mem_cons_of_mem _ nz_w131) rfl rfl dX5_isTame_11 ?_
      refine nz_iload_n (pc := 14) (i := 1) E dX5_isTame_14 rfl rfl ?_
      obtain ⟨h2, hf⟩ := nz_chk_t hf
      refine nz_iald (pc := 15) (c := 13) E rfl h2 dX5_isTame_15 ?_
      refine nz_istore_n (pc := 16) (i := 2) E dX5_isTame_16 rfl (by decide) rfl ?_
      refine nz_aload_n (pc := 17) (i := 0) E dX5_isTame_17 rfl rfl ?_
      refine nz_getR (pc := 18) (c := 11) (kf := 4) E rfl rfl (nz_upT nz_uX5) (by decide) (List.mem_cons_of_mem _ nz_w136) rfl rfl dX5_isTame_18 ?_
      refine nz_iload_n (pc := 21) (i := 2) E dX5_isTame_21 rfl rfl ?_
      obtain ⟨h4, hf⟩ := nz_chk_t hf
      refine nz_iald (pc := 22) (c := 16) E rfl h4 dX5_isTame_22 ?_
      refine nz_if_eq (pc := 23) (tgt := 45) E dX5_isTame_23 (by decide) (fun h5 => ?_) (fun h5 => ?_)
      · have hf := nz_ite_t hf h5
        refine nz_iinc (pc := 45) (i := 1) (w := 1) E dX5_isTame_45 rfl (by decide) (by decide) rfl ?_
        refine nz_goto (pc := 48) (tgt := 2) E dX5_isTame_48 (by decide) ?_
        refine nz_weak (lv' := [(0, .ref (q 11)), (1, .int _)]) ⟨rfl, rfl, trivial⟩ ?_
        exact ih _ _ _ hf hK
      · have hf := nz_ite_f hf h5
        refine nz_aload_n (pc := 26) (i := 0) E dX5_isTame_26 rfl rfl ?_
        refine nz_getR (pc := 27) (c := 11) (kf := 4) E rfl rfl (nz_upT nz_uX5) (by decide) (List.mem_cons_of_mem _ nz_w136) rfl rfl dX5_isTame_27 ?_
        refine nz_iload_n (pc := 30) (i := 2) E dX5_isTame_30 rfl rfl ?_
        obtain ⟨h7, hf⟩ := nz_chk_t hf
        refine nz_iald (pc := 31) (c := 16) E rfl h7 dX5_isTame_31 ?_
        refine nz_aload_n (pc := 32) (i := 0) E dX5_isTame_32 rfl rfl ?_
        refine nz_iload_n (pc := 33) (i := 2) E dX5_isTame_33 rfl rfl ?_
        obtain ⟨r8, x9, h10, hf⟩ := nz_bnd_t hf
        refine nz_callVI (pc := 34) (c0 := 11) (As := [.int _]) E rfl rfl (k_X5_passedBy   _ _ _ h10) (nz_cwV E nz_w406 nz_w407 nz_w408 nz_w61 nz_w409 ds_X5_passedBy ⟨Nat.le_of_ble_eq_true rfl, Nat.le_of_ble_eq_true rfl⟩ rfl rfl) rfl rfl (Nat.le_of_ble_eq_true rfl) dX5_isTame_34 ?_
        refine nz_iconst (pc := 37) (v := -1) E dX5_isTame_37 (by decide) ?_
        refine nz_ixor (pc := 38) E dX5_isTame_38 ?_
        refine nz_iand (pc := 39) E dX5_isTame_39 ?_
        refine nz_if_eq (pc := 40) (tgt := 45) E dX5_isTame_40 (by decide) (fun h11 => ?_) (fun h11 => ?_)
        · have hf := nz_ite_t hf h11
          refine nz_iinc (pc := 45) (i := 1) (w := 1) E dX5_isTame_45 rfl (by decide) (by decide) rfl ?_
          refine nz_goto (pc := 48) (tgt := 2) E dX5_isTame_48 (by decide) ?_
          refine nz_weak (lv' := [(0, .ref (q 11)), (1, .int _)]) ⟨rfl, rfl, trivial⟩ ?_
          exact ih _ _ _ hf hK
        · have hf := nz_ite_f hf h11
          refine nz_iconst (pc := 43) (v := 0) E dX5_isTame_43 (by decide) ?_
          exact nz_iret (pc := 44) E hR rfl hf dX5_isTame_44
set_option maxHeartbeats 4000000 in
set_option maxRecDepth 20000 in
theorem k_X5_isTame {l : Launch} {w : nz_O} {q : Nat → Nat} (x : nz_S) (o : Int32 × nz_S) (hf : f_X5_isTame x = some o) : nz_MI l yX5_isTame (nz_T yX5_isTame cX5_isTame 3 (some .boolean)) (nz_R 3 68) w q nz_tK [.ref (q 11)] x o := by
  refine nz_enterI (by decide) rfl (Nat.le_of_ble_eq_true rfl) rfl rfl ?_
  intro κ E hw hlq hR
  subst hw; subst hlq
  unfold f_X5_isTame at hf
  refine nz_weak (lv' := [(0, .ref (q 11))]) ⟨rfl, trivial⟩ ?_
  refine nz_iconst (pc := 0) (v := 0) E dX5_isTame_0 (by decide) ?_
  refine nz_istore_n (pc := 1) (i := 1) E dX5_isTame_1 rfl (by decide) rfl ?_
  refine nz_weak (lv' := [(0, .ref (q 11)), (1, .int _)]) ⟨rfl, rfl, trivial⟩ ?_
  refine w_X5_isTame_2 E hR _ _ _ _ hf (fun u14 x13 hf => ?_)
  refine nz_iconst (pc := 51) (v := 1) E dX5_isTame_51 (by decide) ?_
  exact nz_iret (pc := 52) E hR rfl hf dX5_isTame_52
def f_X7_aboutLoops (a0 : Int32) (x : nz_S) : Option (Int32 × nz_S) :=
  nz_bnd (f_X5_read 3  x) fun r1 x2 =>
  if a0 = (2 : Int32) then
    some ((x2.1 11 8), x2)
  else
  if a0 = (3 : Int32) then
    nz_bnd (f_X5_countLoops   x2) fun r6 x7 =>
    some (r6, x7)
  else
  if a0 = (4 : Int32) then
    nz_bnd (f_X5_countManyEntered   x2) fun r10 x11 =>
    some (r10, x11)
  else
  if a0 = (5 : Int32) then
    nz_bnd (f_X5_greatestDepth   x2) fun r14 x15 =>
    some (r14, x15)
  else
  if a0 = (6 : Int32) then
    nz_bnd (f_X5_isTame   x2) fun r18 x19 =>
    if r18 = (0 : Int32) then
      some ((0 : Int32), x19)
    else
      some ((1 : Int32), x19)
  else
    some ((x2.1 11 10), x2)
theorem ds_X7_aboutLoops : nz_dsc yX7_aboutLoops 1 := by unfold nz_dsc; decide +kernel
set_option maxHeartbeats 4000000 in
set_option maxRecDepth 20000 in
theorem k_X7_aboutLoops {l : Launch} {w : nz_O} {q : Nat → Nat} (a0 : Int32) (x : nz_S) (o : Int32 × nz_S) (hf : f_X7_aboutLoops a0 x = some o) : nz_MI l yX7_aboutLoops (nz_T yX7_aboutLoops cX7_aboutLoops 2 (some .int)) (nz_R 15 386) w q nz_tK [.ref (q 0), .int a0] x o := by
  refine nz_enterI (by decide) rfl (Nat.le_of_ble_eq_true rfl) rfl rfl ?_
  intro κ E hw hlq hR
  subst hw; subst hlq
  unfold f_X7_aboutLoops at hf
  refine nz_weak (lv' := [(0, .ref (q 0)), (1, .int a0)]) ⟨rfl, rfl, trivial⟩ ?_
  refine nz_aload_n (pc := 0) (i := 0) E dX7_aboutLoops_0 rfl rfl ?_
  refine nz_getR (pc := 1) (c := 0) (kf := 3) E rfl rfl (nz_upT nz_uX7) (by decide) (List.mem_cons_of_mem _ nz_w251) rfl rfl dX7_aboutLoops_1 ?_
  refine nz_aload_n (pc := 4) (i := 0) E dX7_aboutLoops_4 rfl rfl ?_
  refine nz_getR (pc := 5) (c := 0) (kf := 1) E rfl rfl (nz_upT nz_uX7) (by decide) (List.mem_cons_of_mem _ nz_w249) rfl rfl dX7_aboutLoops_5 ?_
  obtain ⟨r1, x2, h3, hf⟩ := nz_bnd_t hf
  refine nz_callVV (pc := 8) (c0 := 11) (As := [.ref (q 3)]) E rfl rfl (k_X5_read 3 nz_g3 _ _ h3) (nz_cwV E nz_w343 nz_w344 nz_w345 nz_w61 nz_w346 ds_X5_read ⟨Nat.le_of_ble_eq_true rfl, Nat.le_of_ble_eq_true rfl⟩ rfl rfl) rfl rfl (Nat.le_of_ble_eq_true rfl) dX7_aboutLoops_8 ?_
  refine nz_iload_n (pc := 11) (i := 1) E dX7_aboutLoops_11 rfl rfl ?_
  by_cases h4 : a0 = 2
  · have hf := nz_ite_t hf h4
    refine nz_tabIn (pc := 12) (off := 36) (tgt := 48) E dX7_aboutLoops_12 (by rw [h4]; decide) (by rw [h4]; decide) (by rw [h4]; rfl) (by decide) ?_
    refine nz_aload_n (pc := 48) (i := 0) E dX7_aboutLoops_48 rfl rfl ?_
    refine nz_getR (pc := 49) (c := 0) (kf := 3) E rfl rfl (nz_upT nz_uX7) (by decide) (List.mem_cons_of_mem _ nz_w251) rfl rfl dX7_aboutLoops_49 ?_
    refine nz_getNI (pc := 52) (c := 11) (kf := 8) E rfl rfl (nz_upT nz_uX5) (by decide) nz_n144 rfl rfl dX7_aboutLoops_52 ?_
    exact nz_iret (pc := 55) E hR rfl hf dX7_aboutLoops_55
  · have hf := nz_ite_f hf h4
    by_cases h5 : a0 = 3
    · have hf := nz_ite_t hf h5
      refine nz_tabIn (pc := 12) (off := 44) (tgt := 56) E dX7_aboutLoops_12 (by rw [h5]; decide) (by rw [h5]; decide) (by rw [h5]; rfl) (by decide) ?_
      refine nz_aload_n (pc := 56) (i := 0) E dX7_aboutLoops_56 rfl rfl ?_
      refine nz_getR (pc := 57) (c := 0) (kf := 3) E rfl rfl (nz_upT nz_uX7) (by decide) (List.mem_cons_of_mem _ nz_w251) rfl rfl dX7_aboutLoops_57 ?_
      obtain ⟨r6, x7, h8, hf⟩ := nz_bnd_t hf
      refine nz_callVI (pc := 60) (c0 := 11) (As := []) E rfl rfl (k_X5_countLoops   _ _ h8) (nz_cwV E nz_w385 nz_w386 nz_w387 nz_w61 nz_w388 ds_X5_countLoops ⟨Nat.le_of_ble_eq_true rfl, Nat.le_of_ble_eq_true rfl⟩ rfl rfl) rfl rfl (Nat.le_of_ble_eq_true rfl) dX7_aboutLoops_60 ?_
      exact nz_iret (pc := 63) E hR rfl hf dX7_aboutLoops_63
    · have hf := nz_ite_f hf h5
      by_cases h9 : a0 = 4
      · have hf := nz_ite_t hf h9
        refine nz_tabIn (pc := 12) (off := 52) (tgt := 64) E dX7_aboutLoops_12 (by rw [h9]; decide) (by rw [h9]; decide) (by rw [h9]; rfl) (by decide) ?_
        refine nz_aload_n (pc := 64) (i := 0) E dX7_aboutLoops_64 rfl rfl ?_
        refine nz_getR (pc := 65) (c := 0) (kf := 3) E rfl rfl (nz_upT nz_uX7) (by decide) (List.mem_cons_of_mem _ nz_w251) rfl rfl dX7_aboutLoops_65 ?_
        obtain ⟨r10, x11, h12, hf⟩ := nz_bnd_t hf
        refine nz_callVI (pc := 68) (c0 := 11) (As := []) E rfl rfl (k_X5_countManyEntered   _ _ h12) (nz_cwV E nz_w389 nz_w390 nz_w391 nz_w61 nz_w392 ds_X5_countManyEntered ⟨Nat.le_of_ble_eq_true rfl, Nat.le_of_ble_eq_true rfl⟩ rfl rfl) rfl rfl (Nat.le_of_ble_eq_true rfl) dX7_aboutLoops_68 ?_
        exact nz_iret (pc := 71) E hR rfl hf dX7_aboutLoops_71
      · have hf := nz_ite_f hf h9
        by_cases h13 : a0 = 5
        · have hf := nz_ite_t hf h13
          refine nz_tabIn (pc := 12) (off := 60) (tgt := 72) E dX7_aboutLoops_12 (by rw [h13]; decide) (by rw [h13]; decide) (by rw [h13]; rfl) (by decide) ?_
          refine nz_aload_n (pc := 72) (i := 0) E dX7_aboutLoops_72 rfl rfl ?_
          refine nz_getR (pc := 73) (c := 0) (kf := 3) E rfl rfl (nz_upT nz_uX7) (by decide) (List.mem_cons_of_mem _ nz_w251) rfl rfl dX7_aboutLoops_73 ?_
          obtain ⟨r14, x15, h16, hf⟩ := nz_bnd_t hf
          refine nz_callVI (pc := 76) (c0 := 11) (As := []) E rfl rfl (k_X5_greatestDepth   _ _ h16) (nz_cwV E nz_w393 nz_w394 nz_w395 nz_w61 nz_w396 ds_X5_greatestDepth ⟨Nat.le_of_ble_eq_true rfl, Nat.le_of_ble_eq_true rfl⟩ rfl rfl) rfl rfl (Nat.le_of_ble_eq_true rfl) dX7_aboutLoops_76 ?_
          exact nz_iret (pc := 79) E hR rfl hf dX7_aboutLoops_79
        · have hf := nz_ite_f hf h13
          by_cases h17 : a0 = 6
          · have hf := nz_ite_t hf h17
            refine nz_tabIn (pc := 12) (off := 68) (tgt := 80) E dX7_aboutLoops_12 (by rw [h17]; decide) (by rw [h17]; decide) (by rw [h17]; rfl) (by decide) ?_
            refine nz_aload_n (pc := 80) (i := 0) E dX7_aboutLoops_80 rfl rfl ?_
            refine nz_getR (pc := 81) (c := 0) (kf := 3) E rfl rfl (nz_upT nz_uX7) (by decide) (List.mem_cons_of_mem _ nz_w251) rfl rfl dX7_aboutLoops_81 ?_
            obtain ⟨r18, x19, h20, hf⟩ := nz_bnd_t hf
            refine nz_callVI (pc := 84) (c0 := 11) (As := []) E rfl rfl (k_X5_isTame   _ _ h20) (nz_cwV E nz_w402 nz_w403 nz_w404 nz_w61 nz_w405 ds_X5_isTame ⟨Nat.le_of_ble_eq_true rfl, Nat.le_of_ble_eq_true rfl⟩ rfl rfl) rfl rfl (Nat.le_of_ble_eq_true rfl) dX7_aboutLoops_84 ?_
            refine nz_if_eq (pc := 87) (tgt := 94) E dX7_aboutLoops_87 (by decide) (fun h21 => ?_) (fun h21 => ?_)
            · have hf := nz_ite_t hf h21
              refine nz_iconst (pc := 94) (v := 0) E dX7_aboutLoops_94 (by decide) ?_
              exact nz_iret (pc := 95) E hR rfl hf dX7_aboutLoops_95
            · have hf := nz_ite_f hf h21
              refine nz_iconst (pc := 90) (v := 1) E dX7_aboutLoops_90 (by decide) ?_
              refine nz_goto (pc := 91) (tgt := 95) E dX7_aboutLoops_91 (by decide) ?_
              exact nz_iret (pc := 95) E hR rfl hf dX7_aboutLoops_95
          · have hf := nz_ite_f hf h17
            have th4 : (a0).toInt ≠ 2 := fun e => h4 (nz_i32 (by rw [e]; decide))
            have th5 : (a0).toInt ≠ 3 := fun e => h5 (nz_i32 (by rw [e]; decide))
            have th9 : (a0).toInt ≠ 4 := fun e => h9 (nz_i32 (by rw [e]; decide))
            have th13 : (a0).toInt ≠ 5 := fun e => h13 (nz_i32 (by rw [e]; decide))
            have th17 : (a0).toInt ≠ 6 := fun e => h17 (nz_i32 (by rw [e]; decide))
            refine nz_tabOut (pc := 12) (tgt := 96) E dX7_aboutLoops_12 (by omega) (by decide) ?_
            refine nz_aload_n (pc := 96) (i := 0) E dX7_aboutLoops_96 rfl rfl ?_
            refine nz_getR (pc := 97) (c := 0) (kf := 3) E rfl rfl (nz_upT nz_uX7) (by decide) (List.mem_cons_of_mem _ nz_w251) rfl rfl dX7_aboutLoops_97 ?_
            refine nz_getNI (pc := 100) (c := 11) (kf := 10) E rfl rfl (nz_upT nz_uX5) (by decide) nz_n148 rfl rfl dX7_aboutLoops_100 ?_
            exact nz_iret (pc := 103) E hR rfl hf dX7_aboutLoops_103
def f_X7_about (a0 : Int32) (x : nz_S) : Option (Int32 × nz_S) :=
  if a0 = (0 : Int32) then
    some ((x.1 3 3), x)
  else
  if a0 = (1 : Int32) then
    nz_bnd (f_X0_countArcs 3  x) fun r3 x4 =>
    some (r3, x4)
  else
  if a0 = (2 : Int32) then
    if a0 < (2 : Int32) then
      some ((-2 : Int32), x)
    else
      if (7 : Int32) < a0 then
        some ((-2 : Int32), x)
      else
        nz_bnd (f_X7_aboutLoops  a0 x) fun r9 x10 =>
        some (r9, x10)
  else
  if a0 = (3 : Int32) then
    if a0 < (2 : Int32) then
      some ((-2 : Int32), x)
    else
      if (7 : Int32) < a0 then
        some ((-2 : Int32), x)
      else
        nz_bnd (f_X7_aboutLoops  a0 x) fun r15 x16 =>
        some (r15, x16)
  else
  if a0 = (4 : Int32) then
    if a0 < (2 : Int32) then
      some ((-2 : Int32), x)
    else
      if (7 : Int32) < a0 then
        some ((-2 : Int32), x)
      else
        nz_bnd (f_X7_aboutLoops  a0 x) fun r21 x22 =>
        some (r21, x22)
  else
  if a0 = (5 : Int32) then
    if a0 < (2 : Int32) then
      some ((-2 : Int32), x)
    else
      if (7 : Int32) < a0 then
        some ((-2 : Int32), x)
      else
        nz_bnd (f_X7_aboutLoops  a0 x) fun r27 x28 =>
        some (r27, x28)
  else
  if a0 = (6 : Int32) then
    if a0 < (2 : Int32) then
      some ((-2 : Int32), x)
    else
      if (7 : Int32) < a0 then
        some ((-2 : Int32), x)
      else
        nz_bnd (f_X7_aboutLoops  a0 x) fun r33 x34 =>
        some (r33, x34)
  else
  if a0 = (7 : Int32) then
    if a0 < (2 : Int32) then
      some ((-2 : Int32), x)
    else
      if (7 : Int32) < a0 then
        some ((-2 : Int32), x)
      else
        nz_bnd (f_X7_aboutLoops  a0 x) fun r39 x40 =>
        some (r39, x40)
  else
  if a0 = (8 : Int32) then
    some ((x.1 20 2), x)
  else
  if a0 = (9 : Int32) then
    some ((x.1 33 3), x)
  else
  if a0 = (10 : Int32) then
    some ((x.1 1 1), x)
  else
    if a0 < (2 : Int32) then
      some ((-2 : Int32), x)
    else
      if (7 : Int32) < a0 then
        some ((-2 : Int32), x)
      else
        nz_bnd (f_X7_aboutLoops  a0 x) fun r47 x48 =>
        some (r47, x48)
theorem ds_X7_about : nz_dsc yX7_about 1 := by unfold nz_dsc; decide +kernel
set_option maxHeartbeats 4000000 in
set_option maxRecDepth 20000 in
theorem k_X7_about {l : Launch} {w : nz_O} {q : Nat → Nat} (a0 : Int32) (x : nz_S) (o : Int32 × nz_S) (hf : f_X7_about a0 x = some o) : nz_MI l yX7_about (nz_T yX7_about cX7_about 2 (some .int)) (nz_R 16 407) w q nz_tK [.ref (q 0), .int a0] x o := by
  refine nz_enterI (by decide) rfl (Nat.le_of_ble_eq_true rfl) rfl rfl ?_
  intro κ E hw hlq hR
  subst hw; subst hlq
  unfold f_X7_about at hf
  refine nz_weak (lv' := [(0, .ref (q 0)), (1, .int a0)]) ⟨rfl, rfl, trivial⟩ ?_
  refine nz_iload_n (pc := 0) (i := 1) E dX7_about_0 rfl rfl ?_
  by_cases h1 : a0 = 0
  · have hf := nz_ite_t hf h1
    refine nz_tabIn (pc := 1) (off := 59) (tgt := 60) E dX7_about_1 (by rw [h1]; decide) (by rw [h1]; decide) (by rw [h1]; rfl) (by decide) ?_
    refine nz_aload_n (pc := 60) (i := 0) E dX7_about_60 rfl rfl ?_
    refine nz_getR (pc := 61) (c := 0) (kf := 1) E rfl rfl (nz_upT nz_uX7) (by decide) (List.mem_cons_of_mem _ nz_w249) rfl rfl dX7_about_61 ?_
    refine nz_getNI (pc := 64) (c := 3) (kf := 3) E rfl rfl (nz_upT nz_uX0) (by decide) nz_n113 rfl rfl dX7_about_64 ?_
    exact nz_iret (pc := 67) E hR rfl hf dX7_about_67
  · have hf := nz_ite_f hf h1
    by_cases h2 : a0 = 1
    · have hf := nz_ite_t hf h2
      refine nz_tabIn (pc := 1) (off := 67) (tgt := 68) E dX7_about_1 (by rw [h2]; decide) (by rw [h2]; decide) (by rw [h2]; rfl) (by decide) ?_
      refine nz_aload_n (pc := 68) (i := 0) E dX7_about_68 rfl rfl ?_
      refine nz_getR (pc := 69) (c := 0) (kf := 1) E rfl rfl (nz_upT nz_uX7) (by decide) (List.mem_cons_of_mem _ nz_w249) rfl rfl dX7_about_69 ?_
      obtain ⟨r3, x4, h5, hf⟩ := nz_bnd_t hf
      refine nz_callVI (pc := 72) (c0 := 3) (As := []) E rfl rfl (k_X0_countArcs 3 nz_g3 _ _ h5) (nz_cwV E nz_w335 nz_w336 nz_w337 nz_w60 nz_w338 ds_X0_countArcs ⟨Nat.le_of_ble_eq_true rfl, Nat.le_of_ble_eq_true rfl⟩ rfl rfl) rfl rfl (Nat.le_of_ble_eq_true rfl) dX7_about_72 ?_
      exact nz_iret (pc := 75) E hR rfl hf dX7_about_75
    · have hf := nz_ite_f hf h2
      by_cases h6 : a0 = 2
      · have hf := nz_ite_t hf h6
        refine nz_tabIn (pc := 1) (off := 99) (tgt := 100) E dX7_about_1 (by rw [h6]; decide) (by rw [h6]; decide) (by rw [h6]; rfl) (by decide) ?_
        refine nz_iload_n (pc := 100) (i := 1) E dX7_about_100 rfl rfl ?_
        refine nz_iconst (pc := 101) (v := 2) E dX7_about_101 (by decide) ?_
        refine nz_icmp_lt (pc := 102) (tgt := 119) E dX7_about_102 (by decide) (fun h7 => ?_) (fun h7 => ?_)
        · have hf := nz_ite_t hf h7
          refine nz_bipush (pc := 119) (v := -2) E dX7_about_119 (by decide) ?_
          exact nz_iret (pc := 121) E hR rfl hf dX7_about_121
        · have hf := nz_ite_f hf h7
          refine nz_iload_n (pc := 105) (i := 1) E dX7_about_105 rfl rfl ?_
          refine nz_bipush (pc := 106) (v := 7) E dX7_about_106 (by decide) ?_
          refine nz_icmp_gt (pc := 108) (tgt := 119) E dX7_about_108 (by decide) (fun h8 => ?_) (fun h8 => ?_)
          · have hf := nz_ite_t hf h8
            refine nz_bipush (pc := 119) (v := -2) E dX7_about_119 (by decide) ?_
            exact nz_iret (pc := 121) E hR rfl hf dX7_about_121
          · have hf := nz_ite_f hf h8
            refine nz_aload_n (pc := 111) (i := 0) E dX7_about_111 rfl rfl ?_
            refine nz_iload_n (pc := 112) (i := 1) E dX7_about_112 rfl rfl ?_
            obtain ⟨r9, x10, h11, hf⟩ := nz_bnd_t hf
            refine nz_callVI (pc := 113) (c0 := 0) (As := [.int _]) E rfl rfl (k_X7_aboutLoops   _ _ _ h11) (nz_cwV E nz_w339 nz_w341 nz_w1 nz_w58 nz_w342 ds_X7_aboutLoops ⟨Nat.le_of_ble_eq_true rfl, Nat.le_of_ble_eq_true rfl⟩ rfl rfl) rfl rfl (Nat.le_of_ble_eq_true rfl) dX7_about_113 ?_
            refine nz_goto (pc := 116) (tgt := 121) E dX7_about_116 (by decide) ?_
            exact nz_iret (pc := 121) E hR rfl hf dX7_about_121
      · have hf := nz_ite_f hf h6
        by_cases h12 : a0 = 3
        · have hf := nz_ite_t hf h12
          refine nz_tabIn (pc := 1) (off := 99) (tgt := 100) E dX7_about_1 (by rw [h12]; decide) (by rw [h12]; decide) (by rw [h12]; rfl) (by decide) ?_
          refine nz_iload_n (pc := 100) (i := 1) E dX7_about_100 rfl rfl ?_
          refine nz_iconst (pc := 101) (v := 2) E dX7_about_101 (by decide) ?_
          refine nz_icmp_lt (pc := 102) (tgt := 119) E dX7_about_102 (by decide) (fun h13 => ?_) (fun h13 => ?_)
          · have hf := nz_ite_t hf h13
            refine nz_bipush (pc := 119) (v := -2) E dX7_about_119 (by decide) ?_
            exact nz_iret (pc := 121) E hR rfl hf dX7_about_121
          · have hf := nz_ite_f hf h13
            refine nz_iload_n (pc := 105) (i := 1) E dX7_about_105 rfl rfl ?_
            refine nz_bipush (pc := 106) (v := 7) E dX7_about_106 (by decide) ?_
            refine nz_icmp_gt (pc := 108) (tgt := 119) E dX7_about_108 (by decide) (fun h14 => ?_) (fun h14 => ?_)
            · have hf := nz_ite_t hf h14
              refine nz_bipush (pc := 119) (v := -2) E dX7_about_119 (by decide) ?_
              exact nz_iret (pc := 121) E hR rfl hf dX7_about_121
            · have hf := nz_ite_f hf h14
              refine nz_aload_n (pc := 111) (i := 0) E dX7_about_111 rfl rfl ?_
              refine nz_iload_n (pc := 112) (i := 1) E dX7_about_112 rfl rfl ?_
              obtain ⟨r15, x16, h17, hf⟩ := nz_bnd_t hf
              refine nz_callVI (pc := 113) (c0 := 0) (As := [.int _]) E rfl rfl (k_X7_aboutLoops   _ _ _ h17) (nz_cwV E nz_w339 nz_w341 nz_w1 nz_w58 nz_w342 ds_X7_aboutLoops ⟨Nat.le_of_ble_eq_true rfl, Nat.le_of_ble_eq_true rfl⟩ rfl rfl) rfl rfl (Nat.le_of_ble_eq_true rfl) dX7_about_113 ?_
              refine nz_goto (pc := 116) (tgt := 121) E dX7_about_116 (by decide) ?_
              exact nz_iret (pc := 121) E hR rfl hf dX7_about_121
        · have hf := nz_ite_f hf h12
          by_cases h18 : a0 = 4
          · have hf := nz_ite_t hf h18
            refine nz_tabIn (pc := 1) (off := 99) (tgt := 100) E dX7_about_1 (by rw [h18]; decide) (by rw [h18]; decide) (by rw [h18]; rfl) (by decide) ?_
            refine nz_iload_n (pc := 100) (i := 1) E dX7_about_100 rfl rfl ?_
            refine nz_iconst (pc := 101) (v := 2) E dX7_about_101 (by decide) ?_
            refine nz_icmp_lt (pc := 102) (tgt := 119) E dX7_about_102 (by decide) (fun h19 => ?_) (fun h19 => ?_)
            · have hf := nz_ite_t hf h19
              refine nz_bipush (pc := 119) (v := -2) E dX7_about_119 (by decide) ?_
              exact nz_iret (pc := 121) E hR rfl hf dX7_about_121
            · have hf := nz_ite_f hf h19
              refine nz_iload_n (pc := 105) (i := 1) E dX7_about_105 rfl rfl ?_
              refine nz_bipush (pc := 106) (v := 7) E dX7_about_106 (by decide) ?_
              refine nz_icmp_gt (pc := 108) (tgt := 119) E dX7_about_108 (by decide) (fun h20 => ?_) (fun h20 => ?_)
              · have hf := nz_ite_t hf h20
                refine nz_bipush (pc := 119) (v := -2) E dX7_about_119 (by decide) ?_
                exact nz_iret (pc := 121) E hR rfl hf dX7_about_121
              · have hf := nz_ite_f hf h20
                refine nz_aload_n (pc := 111) (i := 0) E dX7_about_111 rfl rfl ?_
                refine nz_iload_n (pc := 112) (i := 1) E dX7_about_112 rfl rfl ?_
                obtain ⟨r21, x22, h23, hf⟩ := nz_bnd_t hf
                refine nz_callVI (pc := 113) (c0 := 0) (As := [.int _]) E rfl rfl (k_X7_aboutLoops   _ _ _ h23) (nz_cwV E nz_w339 nz_w341 nz_w1 nz_w58 nz_w342 ds_X7_aboutLoops ⟨Nat.le_of_ble_eq_true rfl, Nat.le_of_ble_eq_true rfl⟩ rfl rfl) rfl rfl (Nat.le_of_ble_eq_true rfl) dX7_about_113 ?_
                refine nz_goto (pc := 116) (tgt := 121) E dX7_about_116 (by decide) ?_
                exact nz_iret (pc := 121) E hR rfl hf dX7_about_121
          · have hf := nz_ite_f hf h18
            by_cases h24 : a0 = 5
            · have hf := nz_ite_t hf h24
              refine nz_tabIn (pc := 1) (off := 99) (tgt := 100) E dX7_about_1 (by rw [h24]; decide) (by rw [h24]; decide) (by rw [h24]; rfl) (by decide) ?_
              refine nz_iload_n (pc := 100) (i := 1) E dX7_about_100 rfl rfl ?_
              refine nz_iconst (pc := 101) (v := 2) E dX7_about_101 (by decide) ?_
              refine nz_icmp_lt (pc := 102) (tgt := 119) E dX7_about_102 (by decide) (fun h25 => ?_) (fun h25 => ?_)
              · have hf := nz_ite_t hf h25
                refine nz_bipush (pc := 119) (v := -2) E dX7_about_119 (by decide) ?_
                exact nz_iret (pc := 121) E hR rfl hf dX7_about_121
              · have hf := nz_ite_f hf h25
                refine nz_iload_n (pc := 105) (i := 1) E dX7_about_105 rfl rfl ?_
                refine nz_bipush (pc := 106) (v := 7) E dX7_about_106 (by decide) ?_
                refine nz_icmp_gt (pc := 108) (tgt := 119) E dX7_about_108 (by decide) (fun h26 => ?_) (fun h26 => ?_)
                · have hf := nz_ite_t hf h26
                  refine nz_bipush (pc := 119) (v := -2) E dX7_about_119 (by decide) ?_
                  exact nz_iret (pc := 121) E hR rfl hf dX7_about_121
                · have hf := nz_ite_f hf h26
                  refine nz_aload_n (pc := 111) (i := 0) E dX7_about_111 rfl rfl ?_
                  refine nz_iload_n (pc := 112) (i := 1) E dX7_about_112 rfl rfl ?_
                  obtain ⟨r27, x28, h29, hf⟩ := nz_bnd_t hf
                  refine nz_callVI (pc := 113) (c0 := 0) (As := [.int _]) E rfl rfl (k_X7_aboutLoops   _ _ _ h29) (nz_cwV E nz_w339 nz_w341 nz_w1 nz_w58 nz_w342 ds_X7_aboutLoops ⟨Nat.le_of_ble_eq_true rfl, Nat.le_of_ble_eq_true rfl⟩ rfl rfl) rfl rfl (Nat.le_of_ble_eq_true rfl) dX7_about_113 ?_
                  refine nz_goto (pc := 116) (tgt := 121) E dX7_about_116 (by decide) ?_
                  exact nz_iret (pc := 121) E hR rfl hf dX7_about_121
            · have hf := nz_ite_f hf h24
              by_cases h30 : a0 = 6
              · have hf := nz_ite_t hf h30
                refine nz_tabIn (pc := 1) (off := 99) (tgt := 100) E dX7_about_1 (by rw [h30]; decide) (by rw [h30]; decide) (by rw [h30]; rfl) (by decide) ?_
                refine nz_iload_n (pc := 100) (i := 1) E dX7_about_100 rfl rfl ?_
                refine nz_iconst (pc := 101) (v := 2) E dX7_about_101 (by decide) ?_
                refine nz_icmp_lt (pc := 102) (tgt := 119) E dX7_about_102 (by decide) (fun h31 => ?_) (fun h31 => ?_)
                · have hf := nz_ite_t hf h31
                  refine nz_bipush (pc := 119) (v := -2) E dX7_about_119 (by decide) ?_
                  exact nz_iret (pc := 121) E hR rfl hf dX7_about_121
                · have hf := nz_ite_f hf h31
                  refine nz_iload_n (pc := 105) (i := 1) E dX7_about_105 rfl rfl ?_
                  refine nz_bipush (pc := 106) (v := 7) E dX7_about_106 (by decide) ?_
                  refine nz_icmp_gt (pc := 108) (tgt := 119) E dX7_about_108 (by decide) (fun h32 => ?_) (fun h32 => ?_)
                  · have hf := nz_ite_t hf h32
                    refine nz_bipush (pc := 119) (v := -2) E dX7_about_119 (by decide) ?_
                    exact nz_iret (pc := 121) E hR rfl hf dX7_about_121
                  · have hf := nz_ite_f hf h32
                    refine nz_aload_n (pc := 111) (i := 0) E dX7_about_111 rfl rfl ?_
                    refine nz_iload_n (pc := 112) (i := 1) E dX7_about_112 rfl rfl ?_
                    obtain ⟨r33, x34, h35, hf⟩ := nz_bnd_t hf
                    refine nz_callVI (pc := 113) (c0 := 0) (As := [.int _]) E rfl rfl (k_X7_aboutLoops   _ _ _ h35) (nz_cwV E nz_w339 nz_w341 nz_w1 nz_w58 nz_w342 ds_X7_aboutLoops ⟨Nat.le_of_ble_eq_true rfl, Nat.le_of_ble_eq_true rfl⟩ rfl rfl) rfl rfl (Nat.le_of_ble_eq_true rfl) dX7_about_113 ?_
                    refine nz_goto (pc := 116) (tgt := 121) E dX7_about_116 (by decide) ?_
                    exact nz_iret (pc := 121) E hR rfl hf dX7_about_121
              · have hf := nz_ite_f hf h30
                by_cases h36 : a0 = 7
                · have hf := nz_ite_t hf h36
                  refine nz_tabIn (pc := 1) (off := 99) (tgt := 100) E dX7_about_1 (by rw [h36]; decide) (by rw [h36]; decide) (by rw [h36]; rfl) (by decide) ?_
                  refine nz_iload_n (pc := 100) (i := 1) E dX7_about_100 rfl rfl ?_
                  refine nz_iconst (pc := 101) (v := 2) E dX7_about_101 (by decide) ?_
                  refine nz_icmp_lt (pc := 102) (tgt := 119) E dX7_about_102 (by decide) (fun h37 => ?_) (fun h37 => ?_)
                  · have hf := nz_ite_t hf h37
                    refine nz_bipush (pc := 119) (v := -2) E dX7_about_119 (by decide) ?_
                    exact nz_iret (pc := 121) E hR rfl hf dX7_about_121
                  · have hf := nz_ite_f hf h37
                    refine nz_iload_n (pc := 105) (i := 1) E dX7_about_105 rfl rfl ?_
                    refine nz_bipush (pc := 106) (v := 7) E dX7_about_106 (by decide) ?_
                    refine nz_icmp_gt (pc := 108) (tgt := 119) E dX7_about_108 (by decide) (fun h38 => ?_) (fun h38 => ?_)
                    · have hf := nz_ite_t hf h38
                      refine nz_bipush (pc := 119) (v := -2) E dX7_about_119 (by decide) ?_
                      exact nz_iret (pc := 121) E hR rfl hf dX7_about_121
                    · have hf := nz_ite_f hf h38
                      refine nz_aload_n (pc := 111) (i := 0) E dX7_about_111 rfl rfl ?_
                      refine nz_iload_n (pc := 112) (i := 1) E dX7_about_112 rfl rfl ?_
                      obtain ⟨r39, x40, h41, hf⟩ := nz_bnd_t hf
                      refine nz_callVI (pc := 113) (c0 := 0) (As := [.int _]) E rfl rfl (k_X7_aboutLoops   _ _ _ h41) (nz_cwV E nz_w339 nz_w341 nz_w1 nz_w58 nz_w342 ds_X7_aboutLoops ⟨Nat.le_of_ble_eq_true rfl, Nat.le_of_ble_eq_true rfl⟩ rfl rfl) rfl rfl (Nat.le_of_ble_eq_true rfl) dX7_about_113 ?_
                      refine nz_goto (pc := 116) (tgt := 121) E dX7_about_116 (by decide) ?_
                      exact nz_iret (pc := 121) E hR rfl hf dX7_about_121
                · have hf := nz_ite_f hf h36
                  by_cases h42 : a0 = 8
                  · have hf := nz_ite_t hf h42
                    refine nz_tabIn (pc := 1) (off := 75) (tgt := 76) E dX7_about_1 (by rw [h42]; decide) (by rw [h42]; decide) (by rw [h42]; rfl) (by decide) ?_
                    refine nz_aload_n (pc := 76) (i := 0) E dX7_about_76 rfl rfl ?_
                    refine nz_getR (pc := 77) (c := 0) (kf := 4) E rfl rfl (nz_upT nz_uX7) (by decide) (List.mem_cons_of_mem _ nz_w252) rfl rfl dX7_about_77 ?_
                    refine nz_getNI (pc := 80) (c := 20) (kf := 2) E rfl rfl (nz_upT nz_uX1) (by decide) nz_n203 rfl rfl dX7_about_80 ?_
                    exact nz_iret (pc := 83) E hR rfl hf dX7_about_83
                  · have hf := nz_ite_f hf h42
                    by_cases h43 : a0 = 9
                    · have hf := nz_ite_t hf h43
                      refine nz_tabIn (pc := 1) (off := 83) (tgt := 84) E dX7_about_1 (by rw [h43]; decide) (by rw [h43]; decide) (by rw [h43]; rfl) (by decide) ?_
                      refine nz_aload_n (pc := 84) (i := 0) E dX7_about_84 rfl rfl ?_
                      refine nz_getR (pc := 85) (c := 0) (kf := 6) E rfl rfl (nz_upT nz_uX7) (by decide) (List.mem_cons_of_mem _ nz_w254) rfl rfl dX7_about_85 ?_
                      refine nz_getNI (pc := 88) (c := 33) (kf := 3) E rfl rfl (nz_upT nz_uX3) (by decide) nz_n238 rfl rfl dX7_about_88 ?_
                      exact nz_iret (pc := 91) E hR rfl hf dX7_about_91
                    · have hf := nz_ite_f hf h43
                      by_cases h44 : a0 = 10
                      · have hf := nz_ite_t hf h44
                        refine nz_tabIn (pc := 1) (off := 91) (tgt := 92) E dX7_about_1 (by rw [h44]; decide) (by rw [h44]; decide) (by rw [h44]; rfl) (by decide) ?_
                        refine nz_aload_n (pc := 92) (i := 0) E dX7_about_92 rfl rfl ?_
                        refine nz_getR (pc := 93) (c := 0) (kf := 0) E rfl rfl (nz_upT nz_uX7) (by decide) (List.mem_cons_of_mem _ nz_w248) rfl rfl dX7_about_93 ?_
                        refine nz_getNI (pc := 96) (c := 1) (kf := 1) E rfl rfl (nz_upT nz_uX6) (by decide) nz_n87 rfl rfl dX7_about_96 ?_
                        exact nz_iret (pc := 99) E hR rfl hf dX7_about_99
                      · have hf := nz_ite_f hf h44
                        have th1 : (a0).toInt ≠ 0 := fun e => h1 (nz_i32 (by rw [e]; decide))
                        have th2 : (a0).toInt ≠ 1 := fun e => h2 (nz_i32 (by rw [e]; decide))
                        have th6 : (a0).toInt ≠ 2 := fun e => h6 (nz_i32 (by rw [e]; decide))
                        have th12 : (a0).toInt ≠ 3 := fun e => h12 (nz_i32 (by rw [e]; decide))
                        have th18 : (a0).toInt ≠ 4 := fun e => h18 (nz_i32 (by rw [e]; decide))
                        have th24 : (a0).toInt ≠ 5 := fun e => h24 (nz_i32 (by rw [e]; decide))
                        have th30 : (a0).toInt ≠ 6 := fun e => h30 (nz_i32 (by rw [e]; decide))
                        have th36 : (a0).toInt ≠ 7 := fun e => h36 (nz_i32 (by rw [e]; decide))
                        have th42 : (a0).toInt ≠ 8 := fun e => h42 (nz_i32 (by rw [e]; decide))
                        have th43 : (a0).toInt ≠ 9 := fun e => h43 (nz_i32 (by rw [e]; decide))
                        have th44 : (a0).toInt ≠ 10 := fun e => h44 (nz_i32 (by rw [e]; decide))
                        refine nz_tabOut (pc := 1) (tgt := 100) E dX7_about_1 (by omega) (by decide) ?_
                        refine nz_iload_n (pc := 100) (i := 1) E dX7_about_100 rfl rfl ?_
                        refine nz_iconst (pc := 101) (v := 2) E dX7_about_101 (by decide) ?_
                        refine nz_icmp_lt (pc := 102) (tgt := 119) E dX7_about_102 (by decide) (fun h45 => ?_) (fun h45 => ?_)
                        · have hf := nz_ite_t hf h45
                          refine nz_bipush (pc := 119) (v := -2) E dX7_about_119 (by decide) ?_
                          exact nz_iret (pc := 121) E hR rfl hf dX7_about_121
                        · have hf := nz_ite_f hf h45
                          refine nz_iload_n (pc := 105) (i := 1) E dX7_about_105 rfl rfl ?_
                          refine nz_bipush (pc := 106) (v := 7) E dX7_about_106 (by decide) ?_
                          refine nz_icmp_gt (pc := 108) (tgt := 119) E dX7_about_108 (by decide) (fun h46 => ?_) (fun h46 => ?_)
                          · have hf := nz_ite_t hf h46
                            refine nz_bipush (pc := 119) (v := -2) E dX7_about_119 (by decide) ?_
                            exact nz_iret (pc := 121) E hR rfl hf dX7_about_121
                          · have hf := nz_ite_f hf h46
                            refine nz_aload_n (pc := 111) (i := 0) E dX7_about_111 rfl rfl ?_
                            refine nz_iload_n (pc := 112) (i := 1) E dX7_about_112 rfl rfl ?_
                            obtain ⟨r47, x48, h49, hf⟩ := nz_bnd_t hf
                            refine nz_callVI (pc := 113) (c0 := 0) (As := [.int _]) E rfl rfl (k_X7_aboutLoops   _ _ _ h49) (nz_cwV E nz_w339 nz_w341 nz_w1 nz_w58 nz_w342 ds_X7_aboutLoops ⟨Nat.le_of_ble_eq_true rfl, Nat.le_of_ble_eq_true rfl⟩ rfl rfl) rfl rfl (Nat.le_of_ble_eq_true rfl) dX7_about_113 ?_
                            refine nz_goto (pc := 116) (tgt := 121) E dX7_about_116 (by decide) ?_
                            exact nz_iret (pc := 121) E hR rfl hf dX7_about_121
def f_X0_hasBlock (g : Nat) (a0 : Int32) (x : nz_S) : Option (Int32 × nz_S) :=
  if a0 < (0 : Int32) then
    some ((0 : Int32), x)
  else
    if (x.1 g 3) ≤ a0 then
      some ((0 : Int32), x)
    else
      some ((1 : Int32), x)
theorem ds_X0_hasBlock : nz_dsc yX0_hasBlock 1 := by unfold nz_dsc; decide +kernel
set_option maxHeartbeats 4000000 in
set_option maxRecDepth 20000 in
theorem k_X0_hasBlock {l : Launch} {w : nz_O} {q : Nat → Nat} (g : Nat) (hg : nz_isG g) (a0 : Int32) (x : nz_S) (o : Int32 × nz_S) (hf : f_X0_hasBlock g a0 x = some o) : nz_MI l yX0_hasBlock (nz_T yX0_hasBlock cX0_hasBlock 2 (some .boolean)) (nz_R 0 0) w q nz_tK [.ref (q g), .int a0] x o := by
  refine nz_enterI (by decide) rfl (Nat.le_of_ble_eq_true rfl) rfl rfl ?_
  intro κ E hw hlq hR
  subst hw; subst hlq
  unfold f_X0_hasBlock at hf
  refine nz_weak (lv' := [(0, .ref (q g)), (1, .int a0)]) ⟨rfl, rfl, trivial⟩ ?_
  refine nz_iload_n (pc := 0) (i := 1) E dX0_hasBlock_0 rfl rfl ?_
  refine nz_if_lt (pc := 1) (tgt := 16) E dX0_hasBlock_1 (by decide) (fun h1 => ?_) (fun h1 => ?_)
  · have hf := nz_ite_t hf h1
    refine nz_iconst (pc := 16) (v := 0) E dX0_hasBlock_16 (by decide) ?_
    exact nz_iret (pc := 17) E hR rfl hf dX0_hasBlock_17
  · have hf := nz_ite_f hf h1
    refine nz_iload_n (pc := 4) (i := 1) E dX0_hasBlock_4 rfl rfl ?_
    refine nz_aload_n (pc := 5) (i := 0) E dX0_hasBlock_5 rfl rfl ?_
    refine nz_getI (pc := 6) (c := g) (kf := 3) E hg.1 rfl (nz_upT nz_uX0) (by decide) (List.mem_cons_of_mem _ nz_w109) rfl rfl dX0_hasBlock_6 ?_
    refine nz_icmp_ge (pc := 9) (tgt := 16) E dX0_hasBlock_9 (by decide) (fun h2 => ?_) (fun h2 => ?_)
    · have hf := nz_ite_t hf h2
      refine nz_iconst (pc := 16) (v := 0) E dX0_hasBlock_16 (by decide) ?_
      exact nz_iret (pc := 17) E hR rfl hf dX0_hasBlock_17
    · have hf := nz_ite_f hf h2
      refine nz_iconst (pc := 12) (v := 1) E dX0_hasBlock_12 (by decide) ?_
      refine nz_goto (pc := 13) (tgt := 17) E dX0_hasBlock_13 (by decide) ?_
      exact nz_iret (pc := 17) E hR rfl hf dX0_hasBlock_17
def f_X7_block (a0 : Int32) (a1 : Int32) (x : nz_S) : Option (Int32 × nz_S) :=
  nz_bnd (f_X0_hasBlock 3 a0 x) fun r1 x2 =>
  if r1 = (0 : Int32) then
    some ((-1 : Int32), x2)
  else
    if a1 < (0 : Int32) then
      some ((-2 : Int32), x2)
    else
      if a1 ≤ (5 : Int32) then
        nz_bnd (f_X5_read 3  x2) fun r7 x8 =>
        if a1 = (0 : Int32) then
          nz_chk (nz_in a0 12) <|
          some ((x8.1 4 (a0).toNatClampNeg), x8)
        else
        if a1 = (1 : Int32) then
          nz_chk (nz_in a0 12) <|
          some ((x8.1 5 (a0).toNatClampNeg), x8)
        else
        if a1 = (2 : Int32) then
          nz_chk (nz_in a0 12) <|
          some ((x8.1 12 (a0).toNatClampNeg), x8)
        else
        if a1 = (3 : Int32) then
          nz_chk (nz_in a0 12) <|
          some ((x8.1 18 (a0).toNatClampNeg), x8)
        else
        if a1 = (4 : Int32) then
          nz_chk (nz_in a0 12) <|
          some ((x8.1 19 (a0).toNatClampNeg), x8)
        else
          nz_bnd (f_X5_depthOf  a0 x8) fun r20 x21 =>
          some (r20, x21)
      else
        some ((-2 : Int32), x2)
theorem ds_X7_block : nz_dsc yX7_block 2 := by unfold nz_dsc; decide +kernel
set_option maxHeartbeats 4000000 in
set_option maxRecDepth 20000 in
theorem k_X7_block {l : Launch} {w : nz_O} {q : Nat → Nat} (a0 : Int32) (a1 : Int32) (x : nz_S) (o : Int32 × nz_S) (hf : f_X7_block a0 a1 x = some o) : nz_MI l yX7_block (nz_T yX7_block cX7_block 3 (some .int)) (nz_R 15 386) w q nz_tK [.ref (q 0), .int a0, .int a1] x o := by
  refine nz_enterI (by decide) rfl (Nat.le_of_ble_eq_true rfl) rfl rfl ?_
  intro κ E hw hlq hR
  subst hw; subst hlq
  unfold f_X7_block at hf
  refine nz_weak (lv' := [(0, .ref (q 0)), (1, .int a0), (2, .int a1)]) ⟨rfl, rfl, rfl, trivial⟩ ?_
  refine nz_aload_n (pc := 0) (i := 0) E dX7_block_0 rfl rfl ?_
  refine nz_getR (pc := 1) (c := 0) (kf := 1) E rfl rfl (nz_upT nz_uX7) (by decide) (List.mem_cons_of_mem _ nz_w249) rfl rfl dX7_block_1 ?_
  refine nz_iload_n (pc := 4) (i := 1) E dX7_block_4 rfl rfl ?_
  obtain ⟨r1, x2, h3, hf⟩ := nz_bnd_t hf
  refine nz_callVI (pc := 5) (c0 := 3) (As := [.int _]) E rfl rfl (k_X0_hasBlock 3 nz_g3 _ _ _ h3) (nz_cwV E nz_w418 nz_w419 nz_w420 nz_w60 nz_w421 ds_X0_hasBlock ⟨Nat.le_of_ble_eq_true rfl, Nat.le_of_ble_eq_true rfl⟩ rfl rfl) rfl rfl (Nat.le_of_ble_eq_true rfl) dX7_block_5 ?_
  refine nz_if_ne (pc := 8) (tgt := 13) E dX7_block_8 (by decide) (fun h4 => ?_) (fun h4 => ?_)
  · have hf := nz_ite_f hf h4
    refine nz_iload_n (pc := 13) (i := 2) E dX7_block_13 rfl rfl ?_
    refine nz_if_lt (pc := 14) (tgt := 22) E dX7_block_14 (by decide) (fun h5 => ?_) (fun h5 => ?_)
    · have hf := nz_ite_t hf h5
      refine nz_bipush (pc := 22) (v := -2) E dX7_block_22 (by decide) ?_
      exact nz_iret (pc := 24) E hR rfl hf dX7_block_24
    · have hf := nz_ite_f hf h5
      refine nz_iload_n (pc := 17) (i := 2) E dX7_block_17 rfl rfl ?_
      refine nz_iconst (pc := 18) (v := 5) E dX7_block_18 (by decide) ?_
      refine nz_icmp_le (pc := 19) (tgt := 25) E dX7_block_19 (by decide) (fun h6 => ?_) (fun h6 => ?_)
      · have hf := nz_ite_t hf h6
        refine nz_aload_n (pc := 25) (i := 0) E dX7_block_25 rfl rfl ?_
        refine nz_getR (pc := 26) (c := 0) (kf := 3) E rfl rfl (nz_upT nz_uX7) (by decide) (List.mem_cons_of_mem _ nz_w251) rfl rfl dX7_block_26 ?_
        refine nz_aload_n (pc := 29) (i := 0) E dX7_block_29 rfl rfl ?_
        refine nz_getR (pc := 30) (c := 0) (kf := 1) E rfl rfl (nz_upT nz_uX7) (by decide) (List.mem_cons_of_mem _ nz_w249) rfl rfl dX7_block_30 ?_
        obtain ⟨r7, x8, h9, hf⟩ := nz_bnd_t hf
        refine nz_callVV (pc := 33) (c0 := 11) (As := [.ref (q 3)]) E rfl rfl (k_X5_read 3 nz_g3 _ _ h9) (nz_cwV E nz_w343 nz_w344 nz_w345 nz_w61 nz_w346 ds_X5_read ⟨Nat.le_of_ble_eq_true rfl, Nat.le_of_ble_eq_true rfl⟩ rfl rfl) rfl rfl (Nat.le_of_ble_eq_true rfl) dX7_block_33 ?_
        refine nz_iload_n (pc := 36) (i := 2) E dX7_block_36 rfl rfl ?_
        by_cases h10 : a1 = 0
        · have hf := nz_ite_t hf h10
          refine nz_tabIn (pc := 37) (off := 35) (tgt := 72) E dX7_block_37 (by rw [h10]; decide) (by rw [h10]; decide) (by rw [h10]; rfl) (by decide) ?_
          refine nz_aload_n (pc := 72) (i := 0) E dX7_block_72 rfl rfl ?_
          refine nz_getR (pc := 73) (c := 0) (kf := 1) E rfl rfl (nz_upT nz_uX7) (by decide) (List.mem_cons_of_mem _ nz_w249) rfl rfl dX7_block_73 ?_
          refine nz_getNR (pc := 76) (c := 3) (kf := 0) E rfl rfl (nz_upT nz_uX0) (by decide) nz_n102 rfl rfl dX7_block_76 ?_
          refine nz_iload_n (pc := 79) (i := 1) E dX7_block_79 rfl rfl ?_
          obtain ⟨h11, hf⟩ := nz_chk_t hf
          refine nz_iald (pc := 80) (c := 4) E rfl h11 dX7_block_80 ?_
          exact nz_iret (pc := 81) E hR rfl hf dX7_block_81
        · have hf := nz_ite_f hf h10
          by_cases h12 : a1 = 1
          · have hf := nz_ite_t hf h12
            refine nz_tabIn (pc := 37) (off := 45) (tgt := 82) E dX7_block_37 (by rw [h12]; decide) (by rw [h12]; decide) (by rw [h12]; rfl) (by decide) ?_
            refine nz_aload_n (pc := 82) (i := 0) E dX7_block_82 rfl rfl ?_
            refine nz_getR (pc := 83) (c := 0) (kf := 1) E rfl rfl (nz_upT nz_uX7) (by decide) (List.mem_cons_of_mem _ nz_w249) rfl rfl dX7_block_83 ?_
            refine nz_getNR (pc := 86) (c := 3) (kf := 1) E rfl rfl (nz_upT nz_uX0) (by decide) nz_n106 rfl rfl dX7_block_86 ?_
            refine nz_iload_n (pc := 89) (i := 1) E dX7_block_89 rfl rfl ?_
            obtain ⟨h13, hf⟩ := nz_chk_t hf
            refine nz_iald (pc := 90) (c := 5) E rfl h13 dX7_block_90 ?_
            exact nz_iret (pc := 91) E hR rfl hf dX7_block_91
          · have hf := nz_ite_f hf h12
            by_cases h14 : a1 = 2
            · have hf := nz_ite_t hf h14
              refine nz_tabIn (pc := 37) (off := 55) (tgt := 92) E dX7_block_37 (by rw [h14]; decide) (by rw [h14]; decide) (by rw [h14]; rfl) (by decide) ?_
              refine nz_aload_n (pc := 92) (i := 0) E dX7_block_92 rfl rfl ?_
              refine nz_getR (pc := 93) (c := 0) (kf := 3) E rfl rfl (nz_upT nz_uX7) (by decide) (List.mem_cons_of_mem _ nz_w251) rfl rfl dX7_block_93 ?_
              refine nz_getNR (pc := 96) (c := 11) (kf := 0) E rfl rfl (nz_upT nz_uX5) (by decide) nz_n130 rfl rfl dX7_block_96 ?_
              refine nz_iload_n (pc := 99) (i := 1) E dX7_block_99 rfl rfl ?_
              obtain ⟨h15, hf⟩ := nz_chk_t hf
              refine nz_iald (pc := 100) (c := 12) E rfl h15 dX7_block_100 ?_
              exact nz_iret (pc := 101) E hR rfl hf dX7_block_101
            · have hf := nz_ite_f hf h14
              by_cases h16 : a1 = 3
              · have hf := nz_ite_t hf h16
                refine nz_tabIn (pc := 37) (off := 65) (tgt := 102) E dX7_block_37 (by rw [h16]; decide) (by rw [h16]; decide) (by rw [h16]; rfl) (by decide) ?_
                refine nz_aload_n (pc := 102) (i := 0) E dX7_block_102 rfl rfl ?_
                refine nz_getR (pc := 103) (c := 0) (kf := 3) E rfl rfl (nz_upT nz_uX7) (by decide) (List.mem_cons_of_mem _ nz_w251) rfl rfl dX7_block_103 ?_
                refine nz_getNR (pc := 106) (c := 11) (kf := 6) E rfl rfl (nz_upT nz_uX5) (by decide) nz_n140 rfl rfl dX7_block_106 ?_
                refine nz_iload_n (pc := 109) (i := 1) E dX7_block_109 rfl rfl ?_
                obtain ⟨h17, hf⟩ := nz_chk_t hf
                refine nz_iald (pc := 110) (c := 18) E rfl h17 dX7_block_110 ?_
                exact nz_iret (pc := 111) E hR rfl hf dX7_block_111
              · have hf := nz_ite_f hf h16
                by_cases h18 : a1 = 4
                · have hf := nz_ite_t hf h18
                  refine nz_tabIn (pc := 37) (off := 75) (tgt := 112) E dX7_block_37 (by rw [h18]; decide) (by rw [h18]; decide) (by rw [h18]; rfl) (by decide) ?_
                  refine nz_aload_n (pc := 112) (i := 0) E dX7_block_112 rfl rfl ?_
                  refine nz_getR (pc := 113) (c := 0) (kf := 3) E rfl rfl (nz_upT nz_uX7) (by decide) (List.mem_cons_of_mem _ nz_w251) rfl rfl dX7_block_113 ?_
                  refine nz_getNR (pc := 116) (c := 11) (kf := 7) E rfl rfl (nz_upT nz_uX5) (by decide) nz_n142 rfl rfl dX7_block_116 ?_
                  refine nz_iload_n (pc := 119) (i := 1) E dX7_block_119 rfl rfl ?_
                  obtain ⟨h19, hf⟩ := nz_chk_t hf
                  refine nz_iald (pc := 120) (c := 19) E rfl h19 dX7_block_120 ?_
                  exact nz_iret (pc := 121) E hR rfl hf dX7_block_121
                · have hf := nz_ite_f hf h18
                  have th10 : (a1).toInt ≠ 0 := fun e => h10 (nz_i32 (by rw [e]; decide))
                  have th12 : (a1).toInt ≠ 1 := fun e => h12 (nz_i32 (by rw [e]; decide))
                  have th14 : (a1).toInt ≠ 2 := fun e => h14 (nz_i32 (by rw [e]; decide))
                  have th16 : (a1).toInt ≠ 3 := fun e => h16 (nz_i32 (by rw [e]; decide))
                  have th18 : (a1).toInt ≠ 4 := fun e => h18 (nz_i32 (by rw [e]; decide))
                  refine nz_tabOut (pc := 37) (tgt := 122) E dX7_block_37 (by omega) (by decide) ?_
                  refine nz_aload_n (pc := 122) (i := 0) E dX7_block_122 rfl rfl ?_
                  refine nz_getR (pc := 123) (c := 0) (kf := 3) E rfl rfl (nz_upT nz_uX7) (by decide) (List.mem_cons_of_mem _ nz_w251) rfl rfl dX7_block_123 ?_
                  refine nz_iload_n (pc := 126) (i := 1) E dX7_block_126 rfl rfl ?_
                  obtain ⟨r20, x21, h22, hf⟩ := nz_bnd_t hf
                  refine nz_callVI (pc := 127) (c0 := 11) (As := [.int _]) E rfl rfl (k_X5_depthOf   _ _ _ h22) (nz_cwV E nz_w422 nz_w398 nz_w399 nz_w61 nz_w400 ds_X5_depthOf ⟨Nat.le_of_ble_eq_true rfl, Nat.le_of_ble_eq_true rfl⟩ rfl rfl) rfl rfl (Nat.le_of_ble_eq_true rfl) dX7_block_127 ?_
                  exact nz_iret (pc := 130) E hR rfl hf dX7_block_130
      · have hf := nz_ite_f hf h6
        refine nz_bipush (pc := 22) (v := -2) E dX7_block_22 (by decide) ?_
        exact nz_iret (pc := 24) E hR rfl hf dX7_block_24
  · have hf := nz_ite_t hf h4
    refine nz_iconst (pc := 11) (v := -1) E dX7_block_11 (by decide) ?_
    exact nz_iret (pc := 12) E hR rfl hf dX7_block_12
def f_X0_hasArc (g : Nat) (a0 : Int32) (a1 : Int32) (x : nz_S) : Option (Int32 × nz_S) :=
  nz_bnd (f_X0_hasBlock g a0 x) fun r1 x2 =>
  if r1 = (0 : Int32) then
    some ((0 : Int32), x2)
  else
    if a1 < (0 : Int32) then
      some ((0 : Int32), x2)
    else
      nz_chk (nz_in a0 12) <|
      if (x2.1 (g + 2) (a0).toNatClampNeg) ≤ a1 then
        some ((0 : Int32), x2)
      else
        some ((1 : Int32), x2)
theorem ds_X0_hasArc : nz_dsc yX0_hasArc 2 := by unfold nz_dsc; decide +kernel
set_option maxHeartbeats 4000000 in
set_option maxRecDepth 20000 in
theorem k_X0_hasArc {l : Launch} {w : nz_O} {q : Nat → Nat} (g : Nat) (hg : nz_isG g) (a0 : Int32) (a1 : Int32) (x : nz_S) (o : Int32 × nz_S) (hf : f_X0_hasArc g a0 a1 x = some o) : nz_MI l yX0_hasArc (nz_T yX0_hasArc cX0_hasArc 3 (some .boolean)) (nz_R 1 21) w q nz_tK [.ref (q g), .int a0, .int a1] x o := by
  refine nz_enterI (by decide) rfl (Nat.le_of_ble_eq_true rfl) rfl rfl ?_
  intro κ E hw hlq hR
  subst hw; subst hlq
  unfold f_X0_hasArc at hf
  refine nz_weak (lv' := [(0, .ref (q g)), (1, .int a0), (2, .int a1)]) ⟨rfl, rfl, rfl, trivial⟩ ?_
  refine nz_aload_n (pc := 0) (i := 0) E dX0_hasArc_0 rfl rfl ?_
  refine nz_iload_n (pc := 1) (i := 1) E dX0_hasArc_1 rfl rfl ?_
  obtain ⟨r1, x2, h3, hf⟩ := nz_bnd_t hf
  refine nz_callVI (pc := 2) (c0 := g) (As := [.int _]) E hg.1 rfl (k_X0_hasBlock g hg _ _ _ h3) (nz_cwV E nz_w431 nz_w419 nz_w420 nz_w60 nz_w421 ds_X0_hasBlock ⟨Nat.le_of_ble_eq_true rfl, Nat.le_of_ble_eq_true rfl⟩ rfl rfl) rfl rfl (Nat.le_of_ble_eq_true rfl) dX0_hasArc_2 ?_
  refine nz_if_eq (pc := 5) (tgt := 26) E dX0_hasArc_5 (by decide) (fun h4 => ?_) (fun h4 => ?_)
  · have hf := nz_ite_t hf h4
    refine nz_iconst (pc := 26) (v := 0) E dX0_hasArc_26 (by decide) ?_
    exact nz_iret (pc := 27) E hR rfl hf dX0_hasArc_27
  · have hf := nz_ite_f hf h4
    refine nz_iload_n (pc := 8) (i := 2) E dX0_hasArc_8 rfl rfl ?_
    refine nz_if_lt (pc := 9) (tgt := 26) E dX0_hasArc_9 (by decide) (fun h5 => ?_) (fun h5 => ?_)
    · have hf := nz_ite_t hf h5
      refine nz_iconst (pc := 26) (v := 0) E dX0_hasArc_26 (by decide) ?_
      exact nz_iret (pc := 27) E hR rfl hf dX0_hasArc_27
    · have hf := nz_ite_f hf h5
      refine nz_iload_n (pc := 12) (i := 2) E dX0_hasArc_12 rfl rfl ?_
      refine nz_aload_n (pc := 13) (i := 0) E dX0_hasArc_13 rfl rfl ?_
      refine nz_getR (pc := 14) (c := g) (kf := 1) E hg.1 rfl (nz_upT nz_uX0) (by decide) (List.mem_cons_of_mem _ nz_w103) rfl rfl dX0_hasArc_14 ?_
      refine nz_iload_n (pc := 17) (i := 1) E dX0_hasArc_17 rfl rfl ?_
      obtain ⟨h6, hf⟩ := nz_chk_t hf
      refine nz_iald (pc := 18) (c := (g + 2)) E hg.2.2.1 h6 dX0_hasArc_18 ?_
      refine nz_icmp_ge (pc := 19) (tgt := 26) E dX0_hasArc_19 (by decide) (fun h7 => ?_) (fun h7 => ?_)
      · have hf := nz_ite_t hf h7
        refine nz_iconst (pc := 26) (v := 0) E dX0_hasArc_26 (by decide) ?_
        exact nz_iret (pc := 27) E hR rfl hf dX0_hasArc_27
      · have hf := nz_ite_f hf h7
        refine nz_iconst (pc := 22) (v := 1) E dX0_hasArc_22 (by decide) ?_
        refine nz_goto (pc := 23) (tgt := 27) E dX0_hasArc_23 (by decide) ?_
        exact nz_iret (pc := 27) E hR rfl hf dX0_hasArc_27
def f_X7_arc (a0 : Int32) (a1 : Int32) (x : nz_S) : Option (Int32 × nz_S) :=
  nz_bnd (f_X0_hasArc 3 a0 a1 x) fun r1 x2 =>
  if r1 = (0 : Int32) then
    some ((-1 : Int32), x2)
  else
    nz_bnd (f_X0_target 3 a0 a1 x2) fun r5 x6 =>
    some (r5, x6)
theorem ds_X7_arc : nz_dsc yX7_arc 2 := by unfold nz_dsc; decide +kernel
set_option maxHeartbeats 4000000 in
set_option maxRecDepth 20000 in
theorem k_X7_arc {l : Launch} {w : nz_O} {q : Nat → Nat} (a0 : Int32) (a1 : Int32) (x : nz_S) (o : Int32 × nz_S) (hf : f_X7_arc a0 a1 x = some o) : nz_MI l yX7_arc (nz_T yX7_arc cX7_arc 3 (some .int)) (nz_R 2 43) w q nz_tK [.ref (q 0), .int a0, .int a1] x o := by
  refine nz_enterI (by decide) rfl (Nat.le_of_ble_eq_true rfl) rfl rfl ?_
  intro κ E hw hlq hR
  subst hw; subst hlq
  unfold f_X7_arc at hf
  refine nz_weak (lv' := [(0, .ref (q 0)), (1, .int a0), (2, .int a1)]) ⟨rfl, rfl, rfl, trivial⟩ ?_
  refine nz_aload_n (pc := 0) (i := 0) E dX7_arc_0 rfl rfl ?_
  refine nz_getR (pc := 1) (c := 0) (kf := 1) E rfl rfl (nz_upT nz_uX7) (by decide) (List.mem_cons_of_mem _ nz_w249) rfl rfl dX7_arc_1 ?_
  refine nz_iload_n (pc := 4) (i := 1) E dX7_arc_4 rfl rfl ?_
  refine nz_iload_n (pc := 5) (i := 2) E dX7_arc_5 rfl rfl ?_
  obtain ⟨r1, x2, h3, hf⟩ := nz_bnd_t hf
  refine nz_callVI (pc := 6) (c0 := 3) (As := [.int _, .int _]) E rfl rfl (k_X0_hasArc 3 nz_g3 _ _ _ _ h3) (nz_cwV E nz_w427 nz_w428 nz_w429 nz_w60 nz_w430 ds_X0_hasArc ⟨Nat.le_of_ble_eq_true rfl, Nat.le_of_ble_eq_true rfl⟩ rfl rfl) rfl rfl (Nat.le_of_ble_eq_true rfl) dX7_arc_6 ?_
  refine nz_if_ne (pc := 9) (tgt := 14) E dX7_arc_9 (by decide) (fun h4 => ?_) (fun h4 => ?_)
  · have hf := nz_ite_f hf h4
    refine nz_aload_n (pc := 14) (i := 0) E dX7_arc_14 rfl rfl ?_
    refine nz_getR (pc := 15) (c := 0) (kf := 1) E rfl rfl (nz_upT nz_uX7) (by decide) (List.mem_cons_of_mem _ nz_w249) rfl rfl dX7_arc_15 ?_
    refine nz_iload_n (pc := 18) (i := 1) E dX7_arc_18 rfl rfl ?_
    refine nz_iload_n (pc := 19) (i := 2) E dX7_arc_19 rfl rfl ?_
    obtain ⟨r5, x6, h7, hf⟩ := nz_bnd_t hf
    refine nz_callVI (pc := 20) (c0 := 3) (As := [.int _, .int _]) E rfl rfl (k_X0_target 3 nz_g3 _ _ _ _ h7) (nz_cwV E nz_w432 nz_w358 nz_w359 nz_w60 nz_w360 ds_X0_target ⟨Nat.le_of_ble_eq_true rfl, Nat.le_of_ble_eq_true rfl⟩ rfl rfl) rfl rfl (Nat.le_of_ble_eq_true rfl) dX7_arc_20 ?_
    exact nz_iret (pc := 23) E hR rfl hf dX7_arc_23
  · have hf := nz_ite_t hf h4
    refine nz_iconst (pc := 12) (v := -1) E dX7_arc_12 (by decide) ?_
    exact nz_iret (pc := 13) E hR rfl hf dX7_arc_13
def f_X5_nestOf_6 : Nat → Int32 → Int32 → nz_S → (Int32 → Int32 → nz_S → Option (Int32 × nz_S)) → Option (Int32 × nz_S)
  | 0, _, _, _, _ => none
  | fu + 1, w2, w3, x, K =>
  if (x.1 11 8) ≤ w3 then
    K w2 w3 x
  else
    nz_chk (nz_in w3 12) <|
    let v4 : Int32 := (x.1 13 (w3).toNatClampNeg)
    nz_chk (nz_in v4 12) <|
    let v6 : Int32 := (x.1 18 (v4).toNatClampNeg)
    if v6 = (-9 : Int32) then
      let v8 : Int32 := w3 + 1
      f_X5_nestOf_6 fu w2 v8 x K
    else
      if ((w2 >>> (v6 &&& 31)) &&& (1 : Int32)) = (0 : Int32) then
        let v10 : Int32 := w3 + 1
        f_X5_nestOf_6 fu w2 v10 x K
      else
        nz_chk (nz_in w3 12) <|
        let v12 : Int32 := (w2 ||| ((1 : Int32) <<< ((x.1 13 (w3).toNatClampNeg) &&& 31)))
        let v13 : Int32 := w3 + 1
        f_X5_nestOf_6 fu v12 v13 x K
def f_X5_nestOf (a0 : Int32) (x : nz_S) : Option (Int32 × nz_S) :=
  let v1 : Int32 := ((1 : Int32) <<< (a0 &&& 31))
  f_X5_nestOf_6 nz_F v1 (0 : Int32) x fun u15 u16 x14 =>
    some (u15, x14)
theorem ds_X5_nestOf : nz_dsc yX5_nestOf 1 := by unfold nz_dsc; decide +kernel
set_option maxHeartbeats 4000000 in
set_option maxRecDepth 20000 in
theorem w_X5_nestOf_6 {κ : nz_C} {q : Nat → Nat} {o : Int32 × nz_S} (E : nz_Env κ q nz_tK 5 cX5_nestOf RX5 (nz_T yX5_nestOf cX5_nestOf 5 (some .int)) (nz_R 0 0)) (hR : nz_RI κ q nz_tK .int o) : ∀ (fu : Nat) (w2 : Int32) (w3 : Int32) (x : nz_S) (K : Int32 → Int32 → nz_S → Option (Int32 × nz_S)), f_X5_nestOf_6 fu w2 w3 x K = some o → (∀ (w2 : Int32) (w3 : Int32) (x : nz_S), K w2 w3 x = some o → nz_St κ q nz_tK 5 60 [(0, .ref (q 11)), (2, .int w2), (3, .int w3)] [] x) → nz_St κ q nz_tK 5 6 [(0, .ref (q 11)), (2, .int w2), (3, .int w3)] [] x := by
  intro fu
  induction fu with
  | zero => intro w2 w3 x K hf; rw [f_X5_nestOf_6] at hf; cases hf
  | succ fu ih =>
    intro w2 w3 x K hf hK
    rw [f_X5_nestOf_6] at hf
    refine nz_iload_n (pc := 6) (i := 3) E dX5_nestOf_6 rfl rfl ?_
    refine nz_aload_n (pc := 7) (i := 0) E dX5_nestOf_7 rfl rfl ?_
    refine nz_getI (pc := 8) (c := 11) (kf := 8) E rfl rfl (nz_upT nz_uX5) (by decide) (List.mem_cons_of_mem _ nz_w143) rfl rfl dX5_nestOf_8 ?_
    refine nz_icmp_ge (pc := 11) (tgt := 60) E dX5_nestOf_11 (by decide) (fun h2 => ?_) (fun h2 => ?_)
    · have hf := nz_ite_t hf h2
      refine nz_weak (lv' := [(0, .ref (q 11)), (2, .int _), (3, .int _)]) ⟨rfl, rfl, rfl, trivial⟩ ?_
      exact hK _ _ _ hf
    · have hf := nz_ite_f hf h2
      refine nz_aload_n (pc := 14) (i := 0) E dX5_nestOf_14 rfl rfl ?_
      refine nz_getR (pc := 15) (c := 11) (kf := 6) E rfl rfl (nz_upT nz_uX5) (by decide) (List.mem_cons_of_mem _ nz_w139) rfl rfl dX5_nestOf_15 ?_
      refine nz_aload_n (pc := 18) (i := 0) E dX5_nestOf_18 rfl rfl ?_
      refine nz_getR (pc := 19) (c := 11) (kf := 1) E rfl rfl (nz_upT nz_uX5) (by decide) (List.mem_cons_of_mem _ nz_w131) rfl rfl dX5_nestOf_19 ?_
      refine nz_iload_n (pc := 22) (i := 3) E dX5_nestOf_22 rfl rfl ?_
      obtain ⟨h3, hf⟩ := nz_chk_t hf
      refine nz_iald (pc := 23) (c := 13) E rfl h3 dX5_nestOf_23 ?_
      obtain ⟨h5, hf⟩ := nz_chk_t hf
      refine nz_iald (pc := 24) (c := 18) E rfl h5 dX5_nestOf_24 ?_
      refine nz_istore (pc := 25) (i := 4) E dX5_nestOf_25 (by decide) rfl ?_
      refine nz_iload (pc := 27) (i := 4) E dX5_nestOf_27 rfl ?_
      refine nz_bipush (pc := 29) (v := -9) E dX5_nestOf_29 (by decide) ?_
      refine nz_icmp_eq (pc := 31) (tgt := 54) E dX5_nestOf_31 (by decide) (fun h7 => ?_) (fun h7 => ?_)
      · have hf := nz_ite_t hf h7
        refine nz_iinc (pc := 54) (i := 3) (w := 1) E dX5_nestOf_54 rfl (by decide) (by decide) rfl ?_
        refine nz_goto (pc := 57) (tgt := 6) E dX5_nestOf_57 (by decide) ?_
        refine nz_weak (lv' := [(0, .ref (q 11)), (2, .int _), (3, .int _)]) ⟨rfl, rfl, rfl, trivial⟩ ?_
        exact ih _ _ _ _ hf hK
      · have hf := nz_ite_f hf h7
        refine nz_iload_n (pc := 34) (i := 2) E dX5_nestOf_34 rfl rfl ?_
        refine nz_iload (pc := 35) (i := 4) E dX5_nestOf_35 rfl ?_
        refine nz_ishr (pc := 37) E dX5_nestOf_37 ?_
        refine nz_iconst (pc := 38) (v := 1) E dX5_nestOf_38 (by decide) ?_
        refine nz_iand (pc := 39) E dX5_nestOf_39 ?_
        refine nz_if_eq (pc := 40) (tgt := 54) E dX5_nestOf_40 (by decide) (fun h9 => ?_) (fun h9 => ?_)
        · have hf := nz_ite_t hf h9
          refine nz_iinc (pc := 54) (i := 3) (w := 1) E dX5_nestOf_54 rfl (by decide) (by decide) rfl ?_
          refine nz_goto (pc := 57) (tgt := 6) E dX5_nestOf_57 (by decide) ?_
          refine nz_weak (lv' := [(0, .ref (q 11)), (2, .int _), (3, .int _)]) ⟨rfl, rfl, rfl, trivial⟩ ?_
          exact ih _ _ _ _ hf hK
        · have hf := nz_ite_f hf h9
          refine nz_iload_n (pc := 43) (i := 2) E dX5_nestOf_43 rfl rfl ?_
          refine nz_iconst (pc := 44) (v := 1) E dX5_nestOf_44 (by decide) ?_
          refine nz_aload_n (pc := 45) (i := 0) E dX5_nestOf_45 rfl rfl ?_
          refine nz_getR (pc := 46) (c := 11) (kf := 1) E rfl rfl (nz_upT nz_uX5) (by decide) (List.mem_cons_of_mem _ nz_w131) rfl rfl dX5_nestOf_46 ?_
          refine nz_iload_n (pc := 49) (i := 3) E dX5_nestOf_49 rfl rfl ?_
          obtain ⟨h11, hf⟩ := nz_chk_t hf
          refine nz_iald (pc := 50) (c := 13) E rfl h11 dX5_nestOf_50 ?_
          refine nz_ishl (pc := 51) E dX5_nestOf_51 ?_
          refine nz_ior (pc := 52) E dX5_nestOf_52 ?_
          refine nz_istore_n (pc := 53) (i := 2) E dX5_nestOf_53 rfl (by decide) rfl ?_
          refine nz_iinc (pc := 54) (i := 3) (w := 1) E dX5_nestOf_54 rfl (by decide) (by decide) rfl ?_
          refine nz_goto (pc := 57) (tgt := 6) E dX5_nestOf_57 (by decide) ?_
          refine nz_weak (lv' := [(0, .ref (q 11)), (2, .int _), (3, .int _)]) ⟨rfl, rfl, rfl, trivial⟩ ?_
          exact ih _ _ _ _ hf hK
set_option maxHeartbeats 4000000 in
set_option maxRecDepth 20000 in
theorem k_X5_nestOf {l : Launch} {w : nz_O} {q : Nat → Nat} (a0 : Int32) (x : nz_S) (o : Int32 × nz_S) (hf : f_X5_nestOf a0 x = some o) : nz_MI l yX5_nestOf (nz_T yX5_nestOf cX5_nestOf 5 (some .int)) (nz_R 0 0) w q nz_tK [.ref (q 11), .int a0] x o := by
  refine nz_enterI (by decide) rfl (Nat.le_of_ble_eq_true rfl) rfl rfl ?_
  intro κ E hw hlq hR
  subst hw; subst hlq
  unfold f_X5_nestOf at hf
  refine nz_weak (lv' := [(0, .ref (q 11)), (1, .int a0)]) ⟨rfl, rfl, trivial⟩ ?_
  refine nz_iconst (pc := 0) (v := 1) E dX5_nestOf_0 (by decide) ?_
  refine nz_iload_n (pc := 1) (i := 1) E dX5_nestOf_1 rfl rfl ?_
  refine nz_ishl (pc := 2) E dX5_nestOf_2 ?_
  refine nz_istore_n (pc := 3) (i := 2) E dX5_nestOf_3 rfl (by decide) rfl ?_
  refine nz_iconst (pc := 4) (v := 0) E dX5_nestOf_4 (by decide) ?_
  refine nz_istore_n (pc := 5) (i := 3) E dX5_nestOf_5 rfl (by decide) rfl ?_
  refine nz_weak (lv' := [(0, .ref (q 11)), (2, .int _), (3, .int _)]) ⟨rfl, rfl, rfl, trivial⟩ ?_
  refine w_X5_nestOf_6 E hR _ _ _ _ _ hf (fun u15 u16 x14 hf => ?_)
  refine nz_iload_n (pc := 60) (i := 2) E dX5_nestOf_60 rfl rfl ?_
  exact nz_iret (pc := 61) E hR rfl hf dX5_nestOf_61
