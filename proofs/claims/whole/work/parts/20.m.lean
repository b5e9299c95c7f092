def f_X8_in (a0 : Int64) (a1 : Int64) (a2 : Int64) (x : nz_S) : Option (Int32 × nz_S) :=
  if (lg_cmp a0 a1) < (0 : Int32) then
    some ((0 : Int32), x)
  else
    if (0 : Int32) < (lg_cmp a0 a2) then
      some ((0 : Int32), x)
    else
      some ((1 : Int32), x)
theorem ds_X8_in : nz_dsc yX8_in 3 := by unfold nz_dsc; decide +kernel
set_option maxHeartbeats 4000000 in
set_option maxRecDepth 20000 in
theorem k_X8_in {l : Launch} {w : nz_O} {q : Nat → Nat} (a0 : Int64) (a1 : Int64) (a2 : Int64) (x : nz_S) (o : Int32 × nz_S) (hf : f_X8_in a0 a1 a2 x = some o) : nz_MI l yX8_in (nz_T yX8_in cX8_in 6 (some .boolean)) (nz_R 0 0) w q nz_tM [.long a0, .long a1, .long a2] x o := by
  refine nz_enterI (by decide) rfl (Nat.le_of_ble_eq_true rfl) rfl rfl ?_
  intro κ E hw hlq hR
  subst hw; subst hlq
  unfold f_X8_in at hf
  refine nz_weak (lv' := [(0, .long a0), (2, .long a1), (4, .long a2)]) ⟨rfl, rfl, rfl, trivial⟩ ?_
  refine nz_lload_n (pc := 0) (i := 0) E dX8_in_0 rfl rfl ?_
  refine nz_lload_n (pc := 1) (i := 2) E dX8_in_1 rfl rfl ?_
  refine nz_lcmp (pc := 2) E dX8_in_2 ?_
  refine nz_if_lt (pc := 3) (tgt := 17) E dX8_in_3 (by decide) (fun h1 => ?_) (fun h1 => ?_)
  · have hf := nz_ite_t hf h1
    refine nz_iconst (pc := 17) (v := 0) E dX8_in_17 (by decide) ?_
    exact nz_iret (pc := 18) E hR rfl hf dX8_in_18
  · have hf := nz_ite_f hf h1
    refine nz_lload_n (pc := 6) (i := 0) E dX8_in_6 rfl rfl ?_
    refine nz_lload (pc := 7) (i := 4) E dX8_in_7 rfl ?_
    refine nz_lcmp (pc := 9) E dX8_in_9 ?_
    refine nz_if_gt (pc := 10) (tgt := 17) E dX8_in_10 (by decide) (fun h2 => ?_) (fun h2 => ?_)
    · have hf := nz_ite_t hf h2
      refine nz_iconst (pc := 17) (v := 0) E dX8_in_17 (by decide) ?_
      exact nz_iret (pc := 18) E hR rfl hf dX8_in_18
    · have hf := nz_ite_f hf h2
      refine nz_iconst (pc := 13) (v := 1) E dX8_in_13 (by decide) ?_
      refine nz_goto (pc := 14) (tgt := 18) E dX8_in_14 (by decide) ?_
      exact nz_iret (pc := 18) E hR rfl hf dX8_in_18
def f_X8_has (a0 : Int32) (a1 : Int32) (x : nz_S) : Option (Int32 × nz_S) :=
  if ((a0 >>> (a1 &&& 31)) &&& (1 : Int32)) = (1 : Int32) then
    some ((1 : Int32), x)
  else
    some ((0 : Int32), x)
theorem ds_X8_has : nz_dsc yX8_has 2 := by unfold nz_dsc; decide +kernel
set_option maxHeartbeats 4000000 in
set_option maxRecDepth 20000 in
theorem k_X8_has {l : Launch} {w : nz_O} {q : Nat → Nat} (a0 : Int32) (a1 : Int32) (x : nz_S) (o : Int32 × nz_S) (hf : f_X8_has a0 a1 x = some o) : nz_MI l yX8_has (nz_T yX8_has cX8_has 2 (some .boolean)) (nz_R 0 0) w q nz_tM [.int a0, .int a1] x o := by
  refine nz_enterI (by decide) rfl (Nat.le_of_ble_eq_true rfl) rfl rfl ?_
  intro κ E hw hlq hR
  subst hw; subst hlq
  unfold f_X8_has at hf
  refine nz_weak (lv' := [(0, .int a0), (1, .int a1)]) ⟨rfl, rfl, trivial⟩ ?_
  refine nz_iload_n (pc := 0) (i := 0) E dX8_has_0 rfl rfl ?_
  refine nz_iload_n (pc := 1) (i := 1) E dX8_has_1 rfl rfl ?_
  refine nz_ishr (pc := 2) E dX8_has_2 ?_
  refine nz_iconst (pc := 3) (v := 1) E dX8_has_3 (by decide) ?_
  refine nz_iand (pc := 4) E dX8_has_4 ?_
  refine nz_iconst (pc := 5) (v := 1) E dX8_has_5 (by decide) ?_
  refine nz_icmp_ne (pc := 6) (tgt := 13) E dX8_has_6 (by decide) (fun h1 => ?_) (fun h1 => ?_)
  · have hf := nz_ite_f hf h1
    refine nz_iconst (pc := 13) (v := 0) E dX8_has_13 (by decide) ?_
    exact nz_iret (pc := 14) E hR rfl hf dX8_has_14
  · have hf := nz_ite_t hf h1
    refine nz_iconst (pc := 9) (v := 1) E dX8_has_9 (by decide) ?_
    refine nz_goto (pc := 10) (tgt := 14) E dX8_has_10 (by decide) ?_
    exact nz_iret (pc := 14) E hR rfl hf dX8_has_14
def f_X8_many_4 (c0 : Int32) : Nat → Int32 → Int32 → nz_S → (Int32 → Int32 → nz_S → Option (Int32 × nz_S)) → Option (Int32 × nz_S)
  | 0, _, _, _, _ => none
  | fu + 1, w1, w2, x, K =>
  if (12 : Int32) ≤ w2 then
    K w1 w2 x
  else
    let v2 : Int32 := (w1 + ((c0 >>> (w2 &&& 31)) &&& (1 : Int32)))
    let v3 : Int32 := w2 + 1
    f_X8_many_4 c0 fu v2 v3 x K
def f_X8_many (a0 : Int32) (x : nz_S) : Option (Int32 × nz_S) :=
  f_X8_many_4 a0 nz_F (0 : Int32) (0 : Int32) x fun u5 u6 x4 =>
    some (u5, x4)
theorem ds_X8_many : nz_dsc yX8_many 1 := by unfold nz_dsc; decide +kernel
set_option maxHeartbeats 4000000 in
set_option maxRecDepth 20000 in
theorem w_X8_many_4 {κ : nz_C} {q : Nat → Nat} {o : Int32 × nz_S} (c0 : Int32) (E : nz_Env κ q nz_tM 3 cX8_many RX8 (nz_T yX8_many cX8_many 3 (some .int)) (nz_R 0 0)) (hR : nz_RI κ q nz_tM .int o) : ∀ (fu : Nat) (w1 : Int32) (w2 : Int32) (x : nz_S) (K : Int32 → Int32 → nz_S → Option (Int32 × nz_S)), f_X8_many_4 c0 fu w1 w2 x K = some o → (∀ (w1 : Int32) (w2 : Int32) (x : nz_S), K w1 w2 x = some o → nz_St κ q nz_tM 3 24 [(0, .int c0), (1, .int w1), (2, .int w2)] [] x) → nz_St κ q nz_tM 3 4 [(0, .int c0), (1, .int w1), (2, .int w2)] [] x := by
  intro fu
  induction fu with
  | zero => intro w1 w2 x K hf; rw [f_X8_many_4] at hf; cases hf
  | succ fu ih =>
    intro w1 w2 x K hf hK
    rw [f_X8_many_4] at hf
    refine nz_iload_n (pc := 4) (i := 2) E dX8_many_4 rfl rfl ?_
    refine nz_bipush (pc := 5) (v := 12) E dX8_many_5 (by decide) ?_
    refine nz_icmp_ge (pc := 7) (tgt := 24) E dX8_many_7 (by decide) (fun h1 => ?_) (fun h1 => ?_)
    · have hf := nz_ite_t hf h1
      refine nz_weak (lv' := [(0, .int _), (1, .int _), (2, .int _)]) ⟨rfl, rfl, rfl, trivial⟩ ?_
      exact hK _ _ _ hf
    · have hf := nz_ite_f hf h1
      refine nz_iload_n (pc := 10) (i := 1) E dX8_many_10 rfl rfl ?_
      refine nz_iload_n (pc := 11) (i := 0) E dX8_many_11 rfl rfl ?_
      refine nz_iload_n (pc := 12) (i := 2) E dX8_many_12 rfl rfl ?_
      refine nz_ishr (pc := 13) E dX8_many_13 ?_
      refine nz_iconst (pc := 14) (v := 1) E dX8_many_14 (by decide) ?_
      refine nz_iand (pc := 15) E dX8_many_15 ?_
      refine nz_iadd (pc := 16) E dX8_many_16 ?_
      refine nz_istore_n (pc := 17) (i := 1) E dX8_many_17 rfl (by decide) rfl ?_
      refine nz_iinc (pc := 18) (i := 2) (w := 1) E dX8_many_18 rfl (by decide) (by decide) rfl ?_
      refine nz_goto (pc := 21) (tgt := 4) E dX8_many_21 (by decide) ?_
      refine nz_weak (lv' := [(0, .int _), (1, .int _), (2, .int _)]) ⟨rfl, rfl, rfl, trivial⟩ ?_
      exact ih _ _ _ _ hf hK
set_option maxHeartbeats 4000000 in
set_option maxRecDepth 20000 in
theorem k_X8_many {l : Launch} {w : nz_O} {q : Nat → Nat} (a0 : Int32) (x : nz_S) (o : Int32 × nz_S) (hf : f_X8_many a0 x = some o) : nz_MI l yX8_many (nz_T yX8_many cX8_many 3 (some .int)) (nz_R 0 0) w q nz_tM [.int a0] x o := by
  refine nz_enterI (by decide) rfl (Nat.le_of_ble_eq_true rfl) rfl rfl ?_
  intro κ E hw hlq hR
  subst hw; subst hlq
  unfold f_X8_many at hf
  refine nz_weak (lv' := [(0, .int a0)]) ⟨rfl, trivial⟩ ?_
  refine nz_iconst (pc := 0) (v := 0) E dX8_many_0 (by decide) ?_
  refine nz_istore_n (pc := 1) (i := 1) E dX8_many_1 rfl (by decide) rfl ?_
  refine nz_iconst (pc := 2) (v := 0) E dX8_many_2 (by decide) ?_
  refine nz_istore_n (pc := 3) (i := 2) E dX8_many_3 rfl (by decide) rfl ?_
  refine nz_weak (lv' := [(0, .int _), (1, .int _), (2, .int _)]) ⟨rfl, rfl, rfl, trivial⟩ ?_
  refine w_X8_many_4 _ E hR _ _ _ _ _ hf (fun u5 u6 x4 hf => ?_)
  refine nz_iload_n (pc := 24) (i := 1) E dX8_many_24 rfl rfl ?_
  exact nz_iret (pc := 25) E hR rfl hf dX8_many_25
def f_X8_power_4 (c0 : Int32) (c1 : Int32) : Nat → Int32 → Int32 → nz_S → (Int32 → Int32 → nz_S → Option (Int32 × nz_S)) → Option (Int32 × nz_S)
  | 0, _, _, _, _ => none
  | fu + 1, w2, w3, x, K =>
  if c1 ≤ w3 then
    K w2 w3 x
  else
    let v2 : Int32 := (w2 * c0)
    let v3 : Int32 := w3 + 1
    f_X8_power_4 c0 c1 fu v2 v3 x K
def f_X8_power (a0 : Int32) (a1 : Int32) (x : nz_S) : Option (Int32 × nz_S) :=
  f_X8_power_4 a0 a1 nz_F (1 : Int32) (0 : Int32) x fun u5 u6 x4 =>
    some (u5, x4)
theorem ds_X8_power : nz_dsc yX8_power 2 := by unfold nz_dsc; decide +kernel
set_option maxHeartbeats 4000000 in
set_option maxRecDepth 20000 in
theorem w_X8_power_4 {κ : nz_C} {q : Nat → Nat} {o : Int32 × nz_S} (c0 : Int32) (c1 : Int32) (E : nz_Env κ q nz_tM 4 cX8_power RX8 (nz_T yX8_power cX8_power 4 (some .int)) (nz_R 0 0)) (hR : nz_RI κ q nz_tM .int o) : ∀ (fu : Nat) (w2 : Int32) (w3 : Int32) (x : nz_S) (K : Int32 → Int32 → nz_S → Option (Int32 × nz_S)), f_X8_power_4 c0 c1 fu w2 w3 x K = some o → (∀ (w2 : Int32) (w3 : Int32) (x : nz_S), K w2 w3 x = some o → nz_St κ q nz_tM 4 19 [(0, .int c0), (1, .int c1), (2, .int w2), (3, .int w3)] [] x) → nz_St κ q nz_tM 4 4 [(0, .int c0), (1, .int c1), (2, .int w2), (3, .int w3)] [] x := by
  intro fu
  induction fu with
  | zero => intro w2 w3 x K hf; rw [f_X8_power_4] at hf; cases hf
  | succ fu ih =>
    intro w2 w3 x K hf hK
    rw [f_X8_power_4] at hf
    refine nz_iload_n (pc := 4) (i := 3) E dX8_power_4 rfl rfl ?_
    refine nz_iload_n (pc := 5) (i := 1) E dX8_power_5 rfl rfl ?_
    refine nz_icmp_ge (pc := 6) (tgt := 19) E dX8_power_6 (by decide) (fun h1 => ?_) (fun h1 => ?_)
    · have hf := nz_ite_t hf h1
      refine nz_weak (lv' := [(0, .int _), (1, .int _), (2, .int _), (3, .int _)]) ⟨rfl, rfl, rfl, rfl, trivial⟩ ?_
      exact hK _ _ _ hf
    · have hf := nz_ite_f hf h1
      refine nz_iload_n (pc := 9) (i := 2) E dX8_power_9 rfl rfl ?_
      refine nz_iload_n (pc := 10) (i := 0) E dX8_power_10 rfl rfl ?_
      refine nz_imul (pc := 11) E dX8_power_11 ?_
      refine nz_istore_n (pc := 12) (i := 2) E dX8_power_12 rfl (by decide) rfl ?_
      refine nz_iinc (pc := 13) (i := 3) (w := 1) E dX8_power_13 rfl (by decide) (by decide) rfl ?_
      refine nz_goto (pc := 16) (tgt := 4) E dX8_power_16 (by decide) ?_
      refine nz_weak (lv' := [(0, .int _), (1, .int _), (2, .int _), (3, .int _)]) ⟨rfl, rfl, rfl, rfl, trivial⟩ ?_
      exact ih _ _ _ _ hf hK
set_option maxHeartbeats 4000000 in
set_option maxRecDepth 20000 in
theorem k_X8_power {l : Launch} {w : nz_O} {q : Nat → Nat} (a0 : Int32) (a1 : Int32) (x : nz_S) (o : Int32 × nz_S) (hf : f_X8_power a0 a1 x = some o) : nz_MI l yX8_power (nz_T yX8_power cX8_power 4 (some .int)) (nz_R 0 0) w q nz_tM [.int a0, .int a1] x o := by
  refine nz_enterI (by decide) rfl (Nat.le_of_ble_eq_true rfl) rfl rfl ?_
  intro κ E hw hlq hR
  subst hw; subst hlq
  unfold f_X8_power at hf
  refine nz_weak (lv' := [(0, .int a0), (1, .int a1)]) ⟨rfl, rfl, trivial⟩ ?_
  refine nz_iconst (pc := 0) (v := 1) E dX8_power_0 (by decide) ?_
  refine nz_istore_n (pc := 1) (i := 2) E dX8_power_1 rfl (by decide) rfl ?_
  refine nz_iconst (pc := 2) (v := 0) E dX8_power_2 (by decide) ?_
  refine nz_istore_n (pc := 3) (i := 3) E dX8_power_3 rfl (by decide) rfl ?_
  refine nz_weak (lv' := [(0, .int _), (1, .int _), (2, .int _), (3, .int _)]) ⟨rfl, rfl, rfl, rfl, trivial⟩ ?_
  refine w_X8_power_4 _ _ E hR _ _ _ _ _ hf (fun u5 u6 x4 hf => ?_)
  refine nz_iload_n (pc := 19) (i := 2) E dX8_power_19 rfl rfl ?_
  exact nz_iret (pc := 20) E hR rfl hf dX8_power_20
def f_X8_noBlock (a0 : Int32) (x : nz_S) : Option (Int32 × nz_S) :=
  nz_chk (nz_in (0 : Int32) 61) <|
  nz_bnd (f_X8_in  (a0).toInt64 (0 : Int64) (((x.1 3 ((0 : Int32)).toNatClampNeg) - (1 : Int32))).toInt64 x) fun r2 x3 =>
  if r2 = (0 : Int32) then
    some ((1 : Int32), x3)
  else
    some ((0 : Int32), x3)
theorem ds_X8_noBlock : nz_dsc yX8_noBlock 1 := by unfold nz_dsc; decide +kernel
set_option maxHeartbeats 4000000 in
set_option maxRecDepth 20000 in
theorem k_X8_noBlock {l : Launch} {w : nz_O} {q : Nat → Nat} (a0 : Int32) (x : nz_S) (o : Int32 × nz_S) (hf : f_X8_noBlock a0 x = some o) : nz_MI l yX8_noBlock (nz_T yX8_noBlock cX8_noBlock 2 (some .boolean)) (nz_R 1 25) w q nz_tM [.ref (q 0), .int a0] x o := by
  refine nz_enterI (by decide) rfl (Nat.le_of_ble_eq_true rfl) rfl rfl ?_
  intro κ E hw hlq hR
  subst hw; subst hlq
  unfold f_X8_noBlock at hf
  refine nz_weak (lv' := [(0, .ref (q 0)), (1, .int a0)]) ⟨rfl, rfl, trivial⟩ ?_
  refine nz_iload_n (pc := 0) (i := 1) E dX8_noBlock_0 rfl rfl ?_
  refine nz_i2l (pc := 1) E dX8_noBlock_1 ?_
  refine nz_lconst (pc := 2) (v := 0) E dX8_noBlock_2 (by decide) ?_
  refine nz_aload_n (pc := 3) (i := 0) E dX8_noBlock_3 rfl rfl ?_
  refine nz_getR (pc := 4) (c := 0) (kf := 5) E rfl rfl (nz_upT nz_uX8) (by decide) (List.mem_cons_of_mem _ nz_w681) rfl rfl dX8_noBlock_4 ?_
  refine nz_iconst (pc := 7) (v := 0) E dX8_noBlock_7 (by decide) ?_
  obtain ⟨h1, hf⟩ := nz_chk_t hf
  refine nz_iald (pc := 8) (c := 3) E rfl h1 dX8_noBlock_8 ?_
  refine nz_iconst (pc := 9) (v := 1) E dX8_noBlock_9 (by decide) ?_
  refine nz_isub (pc := 10) E dX8_noBlock_10 ?_
  refine nz_i2l (pc := 11) E dX8_noBlock_11 ?_
  obtain ⟨r2, x3, h4, hf⟩ := nz_bnd_t hf
  refine nz_callSI (pc := 12) (As := [.long _, .long _, .long _]) E (k_X8_in   _ _ _ _ _ h4) (nz_cwS E nz_w766 nz_w767 nz_w67 nz_w768 ds_X8_in ⟨Nat.le_of_ble_eq_true rfl, Nat.le_of_ble_eq_true rfl⟩ rfl rfl) rfl rfl (Nat.le_of_ble_eq_true rfl) dX8_noBlock_12 ?_
  refine nz_if_ne (pc := 15) (tgt := 22) E dX8_noBlock_15 (by decide) (fun h5 => ?_) (fun h5 => ?_)
  · have hf := nz_ite_f hf h5
    refine nz_iconst (pc := 22) (v := 0) E dX8_noBlock_22 (by decide) ?_
    exact nz_iret (pc := 23) E hR rfl hf dX8_noBlock_23
  · have hf := nz_ite_t hf h5
    refine nz_iconst (pc := 18) (v := 1) E dX8_noBlock_18 (by decide) ?_
    refine nz_goto (pc := 19) (tgt := 23) E dX8_noBlock_19 (by decide) ?_
    exact nz_iret (pc := 23) E hR rfl hf dX8_noBlock_23
def f_X8_noArc (a0 : Int32) (a1 : Int32) (x : nz_S) : Option (Int32 × nz_S) :=
  nz_bnd (f_X8_noBlock  a0 x) fun r1 x2 =>
  if r1 = (0 : Int32) then
    let v5 : Int32 := ((13 : Int32) + a0)
    nz_chk (nz_in v5 61) <|
    nz_bnd (f_X8_in  (a1).toInt64 (0 : Int64) (((x2.1 3 (v5).toNatClampNeg) - (1 : Int32))).toInt64 x2) fun r7 x8 =>
    if r7 = (0 : Int32) then
      some ((1 : Int32), x8)
    else
      some ((0 : Int32), x8)
  else
    some ((1 : Int32), x2)
theorem ds_X8_noArc : nz_dsc yX8_noArc 2 := by unfold nz_dsc; decide +kernel
set_option maxHeartbeats 4000000 in
set_option maxRecDepth 20000 in
theorem k_X8_noArc {l : Launch} {w : nz_O} {q : Nat → Nat} (a0 : Int32) (a1 : Int32) (x : nz_S) (o : Int32 × nz_S) (hf : f_X8_noArc a0 a1 x = some o) : nz_MI l yX8_noArc (nz_T yX8_noArc cX8_noArc 3 (some .boolean)) (nz_R 2 46) w q nz_tM [.ref (q 0), .int a0, .int a1] x o := by
  refine nz_enterI (by decide) rfl (Nat.le_of_ble_eq_true rfl) rfl rfl ?_
  intro κ E hw hlq hR
  subst hw; subst hlq
  unfold f_X8_noArc at hf
  refine nz_weak (lv' := [(0, .ref (q 0)), (1, .int a0), (2, .int a1)]) ⟨rfl, rfl, rfl, trivial⟩ ?_
  refine nz_aload_n (pc := 0) (i := 0) E dX8_noArc_0 rfl rfl ?_
  refine nz_iload_n (pc := 1) (i := 1) E dX8_noArc_1 rfl rfl ?_
  obtain ⟨r1, x2, h3, hf⟩ := nz_bnd_t hf
  refine nz_callVI (pc := 2) (c0 := 0) (As := [.int _]) E rfl rfl (k_X8_noBlock   _ _ _ h3) (nz_cwV E nz_w875 nz_w877 nz_w38 nz_w67 nz_w878 ds_X8_noBlock ⟨Nat.le_of_ble_eq_true rfl, Nat.le_of_ble_eq_true rfl⟩ rfl rfl) rfl rfl (Nat.le_of_ble_eq_true rfl) dX8_noArc_2 ?_
  refine nz_if_ne (pc := 5) (tgt := 29) E dX8_noArc_5 (by decide) (fun h4 => ?_) (fun h4 => ?_)
  · have hf := nz_ite_f hf h4
    refine nz_iconst (pc := 29) (v := 1) E dX8_noArc_29 (by decide) ?_
    refine nz_goto (pc := 30) (tgt := 34) E dX8_noArc_30 (by decide) ?_
    exact nz_iret (pc := 34) E hR rfl hf dX8_noArc_34
  · have hf := nz_ite_t hf h4
    refine nz_iload_n (pc := 8) (i := 2) E dX8_noArc_8 rfl rfl ?_
    refine nz_i2l (pc := 9) E dX8_noArc_9 ?_
    refine nz_lconst (pc := 10) (v := 0) E dX8_noArc_10 (by decide) ?_
    refine nz_aload_n (pc := 11) (i := 0) E dX8_noArc_11 rfl rfl ?_
    refine nz_getR (pc := 12) (c := 0) (kf := 5) E rfl rfl (nz_upT nz_uX8) (by decide) (List.mem_cons_of_mem _ nz_w681) rfl rfl dX8_noArc_12 ?_
    refine nz_bipush (pc := 15) (v := 13) E dX8_noArc_15 (by decide) ?_
    refine nz_iload_n (pc := 17) (i := 1) E dX8_noArc_17 rfl rfl ?_
    refine nz_iadd (pc := 18) E dX8_noArc_18 ?_
    obtain ⟨h6, hf⟩ := nz_chk_t hf
    refine nz_iald (pc := 19) (c := 3) E rfl h6 dX8_noArc_19 ?_
    refine nz_iconst (pc := 20) (v := 1) E dX8_noArc_20 (by decide) ?_
    refine nz_isub (pc := 21) E dX8_noArc_21 ?_
    refine nz_i2l (pc := 22) E dX8_noArc_22 ?_
    obtain ⟨r7, x8, h9, hf⟩ := nz_bnd_t hf
    refine nz_callSI (pc := 23) (As := [.long _, .long _, .long _]) E (k_X8_in   _ _ _ _ _ h9) (nz_cwS E nz_w766 nz_w767 nz_w67 nz_w768 ds_X8_in ⟨Nat.le_of_ble_eq_true rfl, Nat.le_of_ble_eq_true rfl⟩ rfl rfl) rfl rfl (Nat.le_of_ble_eq_true rfl) dX8_noArc_23 ?_
    refine nz_if_ne (pc := 26) (tgt := 33) E dX8_noArc_26 (by decide) (fun h10 => ?_) (fun h10 => ?_)
    · have hf := nz_ite_f hf h10
      refine nz_iconst (pc := 33) (v := 0) E dX8_noArc_33 (by decide) ?_
      exact nz_iret (pc := 34) E hR rfl hf dX8_noArc_34
    · have hf := nz_ite_t hf h10
      refine nz_iconst (pc := 29) (v := 1) E dX8_noArc_29 (by decide) ?_
      refine nz_goto (pc := 30) (tgt := 34) E dX8_noArc_30 (by decide) ?_
      exact nz_iret (pc := 34) E hR rfl hf dX8_noArc_34
def f_X8_write (a0 : Int32) (x : nz_S) : Option (Int32 × nz_S) :=
  let x1 : nz_S := nz_put x 0 0 (0 : Int32)
  nz_bnd (f_X8_in  (a0).toInt64 (0 : Int64) (255 : Int64) x1) fun r2 x3 =>
  if r2 = (0 : Int32) then
    some ((-2 : Int32), x3)
  else
    if (x3.1 0 2) = (64 : Int32) then
      some ((-4 : Int32), x3)
    else
      let v7 : Int32 := (x3.1 0 2)
      nz_chk (nz_in v7 64) <|
      let x9 : nz_S := nz_put x3 1 (v7).toNatClampNeg a0
      let x10 : nz_S := nz_put x9 0 2 ((x9.1 0 2) + (1 : Int32))
      some ((x10.1 0 2), x10)
theorem ds_X8_write : nz_dsc yX8_write 1 := by unfold nz_dsc; decide +kernel
set_option maxHeartbeats 4000000 in
set_option maxRecDepth 20000 in
theorem k_X8_write {l : Launch} {w : nz_O} {q : Nat → Nat} (a0 : Int32) (x : nz_S) (o : Int32 × nz_S) (hf : f_X8_write a0 x = some o) : nz_MI l yX8_write (nz_T yX8_write cX8_write 2 (some .int)) (nz_R 1 25) w q nz_tM [.ref (q 0), .int a0] x o := by
  refine nz_enterI (by decide) rfl (Nat.le_of_ble_eq_true rfl) rfl rfl ?_
  intro κ E hw hlq hR
  subst hw; subst hlq
  unfold f_X8_write at hf
  refine nz_weak (lv' := [(0, .ref (q 0)), (1, .int a0)]) ⟨rfl, rfl, trivial⟩ ?_
  refine nz_aload_n (pc := 0) (i := 0) E dX8_write_0 rfl rfl ?_
  refine nz_iconst (pc := 1) (v := 0) E dX8_write_1 (by decide) ?_
  refine nz_putI (pc := 2) (c := 0) (kf := 0) E rfl rfl (nz_upT nz_uX8) (by decide) (List.mem_cons_of_mem _ nz_w676) rfl tyX8 tyX8_ok nmX8 rfl (tyX8_ok 0 (by decide)) rfl dX8_write_2 ?_
  refine nz_iload_n (pc := 5) (i := 1) E dX8_write_5 rfl rfl ?_
  refine nz_i2l (pc := 6) E dX8_write_6 ?_
  refine nz_lconst (pc := 7) (v := 0) E dX8_write_7 (by decide) ?_
  refine nz_ldc2 (pc := 8) E (List.mem_cons_of_mem _ nz_w765) dX8_write_8 ?_
  obtain ⟨r2, x3, h4, hf⟩ := nz_bnd_t hf
  refine nz_callSI (pc := 11) (As := [.long _, .long _, .long _]) E (k_X8_in   _ _ _ _ _ h4) (nz_cwS E nz_w766 nz_w767 nz_w67 nz_w768 ds_X8_in ⟨Nat.le_of_ble_eq_true rfl, Nat.le_of_ble_eq_true rfl⟩ rfl rfl) rfl rfl (Nat.le_of_ble_eq_true rfl) dX8_write_11 ?_
  refine nz_if_ne (pc := 14) (tgt := 20) E dX8_write_14 (by decide) (fun h5 => ?_) (fun h5 => ?_)
  · have hf := nz_ite_f hf h5
    refine nz_aload_n (pc := 20) (i := 0) E dX8_write_20 rfl rfl ?_
    refine nz_getI (pc := 21) (c := 0) (kf := 2) E rfl rfl (nz_upT nz_uX8) (by decide) (List.mem_cons_of_mem _ nz_w678) rfl rfl dX8_write_21 ?_
    refine nz_bipush (pc := 24) (v := 64) E dX8_write_24 (by decide) ?_
    refine nz_icmp_ne (pc := 26) (tgt := 32) E dX8_write_26 (by decide) (fun h6 => ?_) (fun h6 => ?_)
    · have hf := nz_ite_f hf h6
      refine nz_aload_n (pc := 32) (i := 0) E dX8_write_32 rfl rfl ?_
      refine nz_getR (pc := 33) (c := 0) (kf := 1) E rfl rfl (nz_upT nz_uX8) (by decide) (List.mem_cons_of_mem _ nz_w677) rfl rfl dX8_write_33 ?_
      refine nz_aload_n (pc := 36) (i := 0) E dX8_write_36 rfl rfl ?_
      refine nz_getI (pc := 37) (c := 0) (kf := 2) E rfl rfl (nz_upT nz_uX8) (by decide) (List.mem_cons_of_mem _ nz_w678) rfl rfl dX8_write_37 ?_
      refine nz_iload_n (pc := 40) (i := 1) E dX8_write_40 rfl rfl ?_
      obtain ⟨h8, hf⟩ := nz_chk_t hf
      refine nz_iast (pc := 41) (c := 1) E rfl h8 dX8_write_41 ?_
      refine nz_aload_n (pc := 42) (i := 0) E dX8_write_42 rfl rfl ?_
      refine nz_dup (pc := 43) E dX8_write_43 rfl ?_
      refine nz_getI (pc := 44) (c := 0) (kf := 2) E rfl rfl (nz_upT nz_uX8) (by decide) (List.mem_cons_of_mem _ nz_w678) rfl rfl dX8_write_44 ?_
      refine nz_iconst (pc := 47) (v := 1) E dX8_write_47 (by decide) ?_
      refine nz_iadd (pc := 48) E dX8_write_48 ?_
      refine nz_putI (pc := 49) (c := 0) (kf := 2) E rfl rfl (nz_upT nz_uX8) (by decide) (List.mem_cons_of_mem _ nz_w678) rfl tyX8 tyX8_ok nmX8 rfl (tyX8_ok 2 (by decide)) rfl dX8_write_49 ?_
      refine nz_aload_n (pc := 52) (i := 0) E dX8_write_52 rfl rfl ?_
      refine nz_getI (pc := 53) (c := 0) (kf := 2) E rfl rfl (nz_upT nz_uX8) (by decide) (List.mem_cons_of_mem _ nz_w678) rfl rfl dX8_write_53 ?_
      exact nz_iret (pc := 56) E hR rfl hf dX8_write_56
    · have hf := nz_ite_t hf h6
      refine nz_bipush (pc := 29) (v := -4) E dX8_write_29 (by decide) ?_
      exact nz_iret (pc := 31) E hR rfl hf dX8_write_31
  · have hf := nz_ite_t hf h5
    refine nz_bipush (pc := 17) (v := -2) E dX8_write_17 (by decide) ?_
    exact nz_iret (pc := 19) E hR rfl hf dX8_write_19
def f_X8_wipe (x : nz_S) : Option (Int32 × nz_S) :=
  let x1 : nz_S := nz_put x 0 0 (0 : Int32)
  let v2 : Int32 := (x1.1 0 2)
  let x3 : nz_S := nz_put x1 0 2 (0 : Int32)
  some (v2, x3)
theorem ds_X8_wipe : nz_dsc yX8_wipe 0 := by unfold nz_dsc; decide +kernel
set_option maxHeartbeats 4000000 in
set_option maxRecDepth 20000 in
theorem k_X8_wipe {l : Launch} {w : nz_O} {q : Nat → Nat} (x : nz_S) (o : Int32 × nz_S) (hf : f_X8_wipe x = some o) : nz_MI l yX8_wipe (nz_T yX8_wipe cX8_wipe 2 (some .int)) (nz_R 0 0) w q nz_tM [.ref (q 0)] x o := by
  refine nz_enterI (by decide) rfl (Nat.le_of_ble_eq_true rfl) rfl rfl ?_
  intro κ E hw hlq hR
  subst hw; subst hlq
  unfold f_X8_wipe at hf
  refine nz_weak (lv' := [(0, .ref (q 0))]) ⟨rfl, trivial⟩ ?_
  refine nz_aload_n (pc := 0) (i := 0) E dX8_wipe_0 rfl rfl ?_
  refine nz_iconst (pc := 1) (v := 0) E dX8_wipe_1 (by decide) ?_
  refine nz_putI (pc := 2) (c := 0) (kf := 0) E rfl rfl (nz_upT nz_uX8) (by decide) (List.mem_cons_of_mem _ nz_w676) rfl tyX8 tyX8_ok nmX8 rfl (tyX8_ok 0 (by decide)) rfl dX8_wipe_2 ?_
  refine nz_aload_n (pc := 5) (i := 0) E dX8_wipe_5 rfl rfl ?_
  refine nz_getI (pc := 6) (c := 0) (kf := 2) E rfl rfl (nz_upT nz_uX8) (by decide) (List.mem_cons_of_mem _ nz_w678) rfl rfl dX8_wipe_6 ?_
  refine nz_istore_n (pc := 9) (i := 1) E dX8_wipe_9 rfl (by decide) rfl ?_
  refine nz_aload_n (pc := 10) (i := 0) E dX8_wipe_10 rfl rfl ?_
  refine nz_iconst (pc := 11) (v := 0) E dX8_wipe_11 (by decide) ?_
  refine nz_putI (pc := 12) (c := 0) (kf := 2) E rfl rfl (nz_upT nz_uX8) (by decide) (List.mem_cons_of_mem _ nz_w678) rfl tyX8 tyX8_ok nmX8 rfl (tyX8_ok 2 (by decide)) rfl dX8_wipe_12 ?_
  refine nz_iload_n (pc := 15) (i := 1) E dX8_wipe_15 rfl rfl ?_
  exact nz_iret (pc := 16) E hR rfl hf dX8_wipe_16
def f_X8_letterAt (a0 : Int32) (x : nz_S) : Option (Int32 × nz_S) :=
  if (x.1 0 2) ≤ a0 then
    some ((-9 : Int32), x)
  else
    nz_chk (nz_in a0 64) <|
    some ((x.1 1 (a0).toNatClampNeg), x)
theorem ds_X8_letterAt : nz_dsc yX8_letterAt 1 := by unfold nz_dsc; decide +kernel
set_option maxHeartbeats 4000000 in
set_option maxRecDepth 20000 in
theorem k_X8_letterAt {l : Launch} {w : nz_O} {q : Nat → Nat} (a0 : Int32) (x : nz_S) (o : Int32 × nz_S) (hf : f_X8_letterAt a0 x = some o) : nz_MI l yX8_letterAt (nz_T yX8_letterAt cX8_letterAt 2 (some .int)) (nz_R 0 0) w q nz_tM [.ref (q 0), .int a0] x o := by
  refine nz_enterI (by decide) rfl (Nat.le_of_ble_eq_true rfl) rfl rfl ?_
  intro κ E hw hlq hR
  subst hw; subst hlq
  unfold f_X8_letterAt at hf
  refine nz_weak (lv' := [(0, .ref (q 0)), (1, .int a0)]) ⟨rfl, rfl, trivial⟩ ?_
  refine nz_iload_n (pc := 0) (i := 1) E dX8_letterAt_0 rfl rfl ?_
  refine nz_aload_n (pc := 1) (i := 0) E dX8_letterAt_1 rfl rfl ?_
  refine nz_getI (pc := 2) (c := 0) (kf := 2) E rfl rfl (nz_upT nz_uX8) (by decide) (List.mem_cons_of_mem _ nz_w678) rfl rfl dX8_letterAt_2 ?_
  refine nz_icmp_ge (pc := 5) (tgt := 17) E dX8_letterAt_5 (by decide) (fun h1 => ?_) (fun h1 => ?_)
  · have hf := nz_ite_t hf h1
    refine nz_bipush (pc := 17) (v := -9) E dX8_letterAt_17 (by decide) ?_
    exact nz_iret (pc := 19) E hR rfl hf dX8_letterAt_19
  · have hf := nz_ite_f hf h1
    refine nz_aload_n (pc := 8) (i := 0) E dX8_letterAt_8 rfl rfl ?_
    refine nz_getR (pc := 9) (c := 0) (kf := 1) E rfl rfl (nz_upT nz_uX8) (by decide) (List.mem_cons_of_mem _ nz_w677) rfl rfl dX8_letterAt_9 ?_
    refine nz_iload_n (pc := 12) (i := 1) E dX8_letterAt_12 rfl rfl ?_
    obtain ⟨h2, hf⟩ := nz_chk_t hf
    refine nz_iald (pc := 13) (c := 1) E rfl h2 dX8_letterAt_13 ?_
    refine nz_goto (pc := 14) (tgt := 19) E dX8_letterAt_14 (by decide) ?_
    exact nz_iret (pc := 19) E hR rfl hf dX8_letterAt_19
def f_X8_readBlock_60 (c1 : Int32) (c2 : Int32) : Nat → nz_S → (nz_S → Option (Int32 × nz_S)) → Option (Int32 × nz_S)
  | 0, _, _ => none
  | fu + 1, x, K =>
  let v17 : Int32 := ((13 : Int32) + c1)
  nz_chk (nz_in v17 61) <|
  if (3 : Int32) ≤ (x.1 2 (v17).toNatClampNeg) then
    K  x
  else
    nz_bnd (f_X8_letterAt  (x.1 0 3) x) fun r20 x21 =>
    nz_bnd (f_X8_in  ((r20 - (48 : Int32))).toInt64 (0 : Int64) ((c2 - (1 : Int32))).toInt64 x21) fun r23 x24 =>
    if r23 = (0 : Int32) then
      K  x24
    else
      let v27 : Int32 := ((13 : Int32) + c1)
      nz_chk (nz_in v27 61) <|
      let v29 : Int32 := (x24.1 0 3)
      nz_chk (nz_in v29 64) <|
      let v31 : Int32 := (((25 : Int32) + ((3 : Int32) * c1)) + (x24.1 2 (v27).toNatClampNeg))
      nz_chk (nz_in v31 61) <|
      let x33 : nz_S := nz_put x24 2 (v31).toNatClampNeg ((x24.1 1 (v29).toNatClampNeg) - (48 : Int32))
      let v34 : Int32 := ((13 : Int32) + c1)
      nz_chk (nz_in v34 61) <|
      nz_chk (nz_in v34 61) <|
      let x37 : nz_S := nz_put x33 2 (v34).toNatClampNeg ((x33.1 2 (v34).toNatClampNeg) + (1 : Int32))
      let x38 : nz_S := nz_put x37 0 3 ((x37.1 0 3) + (1 : Int32))
      f_X8_readBlock_60 c1 c2 fu  x38 K
def f_X8_readBlock (a0 : Int32) (a1 : Int32) (x : nz_S) : Option (Int32 × nz_S) :=
  nz_bnd (f_X8_letterAt  (x.1 0 3) x) fun r1 x2 =>
  nz_bnd (f_X8_in  (r1).toInt64 (97 : Int64) (122 : Int64) x2) fun r4 x5 =>
  if r4 = (0 : Int32) then
    some ((0 : Int32), x5)
  else
    let v8 : Int32 := (x5.1 0 3)
    nz_chk (nz_in v8 64) <|
    let v10 : Int32 := ((1 : Int32) + a0)
    nz_chk (nz_in v10 61) <|
    let x12 : nz_S := nz_put x5 2 (v10).toNatClampNeg (x5.1 1 (v8).toNatClampNeg)
    let v13 : Int32 := ((13 : Int32) + a0)
    nz_chk (nz_in v13 61) <|
    let x15 : nz_S := nz_put x12 2 (v13).toNatClampNeg (0 : Int32)
    let x16 : nz_S := nz_put x15 0 3 ((x15.1 0 3) + (1 : Int32))
    f_X8_readBlock_60 a0 a1 nz_F  x16 fun  x39 =>
      some ((1 : Int32), x39)
theorem ds_X8_readBlock : nz_dsc yX8_readBlock 2 := by unfold nz_dsc; decide +kernel
set_option maxHeartbeats 4000000 in
set_option maxRecDepth 20000 in
theorem w_X8_readBlock_60 {κ : nz_C} {q : Nat → Nat} {o : Int32 × nz_S} (c1 : Int32) (c2 : Int32) (E : nz_Env κ q nz_tM 3 cX8_readBlock RX8 (nz_T yX8_readBlock cX8_readBlock 3 (some .boolean)) (nz_R 1 25)) (hR : nz_RI κ q nz_tM .boolean o) : ∀ (fu : Nat)  (x : nz_S) (K : nz_S → Option (Int32 × nz_S)), f_X8_readBlock_60 c1 c2 fu  x K = some o → (∀  (x : nz_S), K  x = some o → nz_St κ q nz_tM 3 155 [(0, .ref (q 0)), (1, .int c1), (2, .int c2)] [] x) → nz_St κ q nz_tM 3 60 [(0, .ref (q 0)), (1, .int c1), (2, .int c2)] [] x := by
  intro fu
  induction fu with
  | zero => intro  x K hf; rw [f_X8_readBlock_60] at hf; cases hf
  | succ fu ih =>
    intro  x K hf hK
    rw [f_X8_readBlock_60] at hf
    refine nz_aload_n (pc := 60) (i := 0) E dX8_readBlock_60 rfl rfl ?_
    refine nz_getR (pc := 61) (c := 0) (kf := 4) E rfl rfl (nz_upT nz_uX8) (by decide) (List.mem_cons_of_mem _ nz_w680) rfl rfl dX8_readBlock_61 ?_
    refine nz_bipush (pc := 64) (v := 13) E dX8_readBlock_64 (by decide) ?_
    refine nz_iload_n (pc := 66) (i := 1) E dX8_readBlock_66 rfl rfl ?_
    refine nz_iadd (pc := 67) E dX8_readBlock_67 ?_
    obtain ⟨h18, hf⟩ := nz_chk_t hf
    refine nz_iald (pc := 68) (c := 2) E rfl h18 dX8_readBlock_68 ?_
    refine nz_iconst (pc := 69) (v := 3) E dX8_readBlock_69 (by decide) ?_
    refine nz_icmp_ge (pc := 70) (tgt := 155) E dX8_readBlock_70 (by decide) (fun h19 => ?_) (fun h19 => ?_)
    · have hf := nz_ite_t hf h19
      refine nz_weak (lv' := [(0, .ref (q 0)), (1, .int _), (2, .int _)]) ⟨rfl, rfl, rfl, trivial⟩ ?_
      exact hK  _ hf
    · have hf := nz_ite_f hf h19
      refine nz_aload_n (pc := 73) (i := 0) E dX8_readBlock_73 rfl rfl ?_
      refine nz_aload_n (pc := 74) (i := 0) E dX8_readBlock_74 rfl rfl ?_
      refine nz_getI (pc := 75) (c := 0) (kf := 3) E rfl rfl (nz_upT nz_uX8) (by decide) (List.mem_cons_of_mem _ nz_w679) rfl rfl dX8_readBlock_75 ?_
      obtain ⟨r20, x21, h22, hf⟩ := nz_bnd_t hf
      refine nz_callVI (pc := 78) (c0 := 0) (As := [.int _]) E rfl rfl (k_X8_letterAt   _ _ _ h22) (nz_cwV E nz_w781 nz_w783 nz_w22 nz_w67 nz_w784 ds_X8_letterAt ⟨Nat.le_of_ble_eq_true rfl, Nat.le_of_ble_eq_true rfl⟩ rfl rfl) rfl rfl (Nat.le_of_ble_eq_true rfl) dX8_readBlock_78 ?_
      refine nz_bipush (pc := 81) (v := 48) E dX8_readBlock_81 (by decide) ?_
      refine nz_isub (pc := 83) E dX8_readBlock_83 ?_
      refine nz_i2l (pc := 84) E dX8_readBlock_84 ?_
      refine nz_lconst (pc := 85) (v := 0) E dX8_readBlock_85 (by decide) ?_
      refine nz_iload_n (pc := 86) (i := 2) E dX8_readBlock_86 rfl rfl ?_
      refine nz_iconst (pc := 87) (v := 1) E dX8_readBlock_87 (by decide) ?_
      refine nz_isub (pc := 88) E dX8_readBlock_88 ?_
      refine nz_i2l (pc := 89) E dX8_readBlock_89 ?_
      obtain ⟨r23, x24, h25, hf⟩ := nz_bnd_t hf
      refine nz_callSI (pc := 90) (As := [.long _, .long _, .long _]) E (k_X8_in   _ _ _ _ _ h25) (nz_cwS E nz_w766 nz_w767 nz_w67 nz_w768 ds_X8_in ⟨Nat.le_of_ble_eq_true rfl, Nat.le_of_ble_eq_true rfl⟩ rfl rfl) rfl rfl (Nat.le_of_ble_eq_true rfl) dX8_readBlock_90 ?_
      refine nz_if_eq (pc := 93) (tgt := 155) E dX8_readBlock_93 (by decide) (fun h26 => ?_) (fun h26 => ?_)
      · have hf := nz_ite_t hf h26
        refine nz_weak (lv' := [(0, .ref (q 0)), (1, .int _), (2, .int _)]) ⟨rfl, rfl, rfl, trivial⟩ ?_
        exact hK  _ hf
      · have hf := nz_ite_f hf h26
        refine nz_aload_n (pc := 96) (i := 0) E dX8_readBlock_96 rfl rfl ?_
        refine nz_getR (pc := 97) (c := 0) (kf := 4) E rfl rfl (nz_upT nz_uX8) (by decide) (List.mem_cons_of_mem _ nz_w680) rfl rfl dX8_readBlock_97 ?_
        refine nz_bipush (pc := 100) (v := 25) E dX8_readBlock_100 (by decide) ?_
        refine nz_iconst (pc := 102) (v := 3) E dX8_readBlock_102 (by decide) ?_
        refine nz_iload_n (pc := 103) (i := 1) E dX8_readBlock_103 rfl rfl ?_
        refine nz_imul (pc := 104) E dX8_readBlock_104 ?_
        refine nz_iadd (pc := 105) E dX8_readBlock_105 ?_
        refine nz_aload_n (pc := 106) (i := 0) E dX8_readBlock_106 rfl rfl ?_
        refine nz_getR (pc := 107) (c := 0) (kf := 4) E rfl rfl (nz_upT nz_uX8) (by decide) (List.mem_cons_of_mem _ nz_w680) rfl rfl dX8_readBlock_107 ?_
        refine nz_bipush (pc := 110) (v := 13) E dX8_readBlock_110 (by decide) ?_
        refine nz_iload_n (pc := 112) (i := 1) E dX8_readBlock_112 rfl rfl ?_
        refine nz_iadd (pc := 113) E dX8_readBlock_113 ?_
        obtain ⟨h28, hf⟩ := nz_chk_t hf
        refine nz_iald (pc := 114) (c := 2) E rfl h28 dX8_readBlock_114 ?_
        refine nz_iadd (pc := 115) E dX8_readBlock_115 ?_
        refine nz_aload_n (pc := 116) (i := 0) E dX8_readBlock_116 rfl rfl ?_
        refine nz_getR (pc := 117) (c := 0) (kf := 1) E rfl rfl (nz_upT nz_uX8) (by decide) (List.mem_cons_of_mem _ nz_w677) rfl rfl dX8_readBlock_117 ?_
        refine nz_aload_n (pc := 120) (i := 0) E dX8_readBlock_120 rfl rfl ?_
        refine nz_getI (pc := 121) (c := 0) (kf := 3) E rfl rfl (nz_upT nz_uX8) (by decide) (List.mem_cons_of_mem _ nz_w679) rfl rfl dX8_readBlock_121 ?_
        obtain ⟨h30, hf⟩ := nz_chk_t hf
        refine nz_iald (pc := 124) (c := 1) E rfl h30 dX8_readBlock_124 ?_
        refine nz_bipush (pc := 125) (v := 48) E dX8_readBlock_125 (by decide) ?_
        refine nz_isub (pc := 127) E dX8_readBlock_127 ?_
        obtain ⟨h32, hf⟩ := nz_chk_t hf
        refine nz_iast (pc := 128) (c := 2) E rfl h32 dX8_readBlock_128 ?_
        refine nz_aload_n (pc := 129) (i := 0) E dX8_readBlock_129 rfl rfl ?_
        refine nz_getR (pc := 130) (c := 0) (kf := 4) E rfl rfl (nz_upT nz_uX8) (by decide) (List.mem_cons_of_mem _ nz_w680) rfl rfl dX8_readBlock_130 ?_
        refine nz_bipush (pc := 133) (v := 13) E dX8_readBlock_133 (by decide) ?_
        refine nz_iload_n (pc := 135) (i := 1) E dX8_readBlock_135 rfl rfl ?_
        refine nz_iadd (pc := 136) E dX8_readBlock_136 ?_
        refine nz_dup2 (pc := 137) E dX8_readBlock_137 rfl rfl ?_
        obtain ⟨h35, hf⟩ := nz_chk_t hf
        refine nz_iald (pc := 138) (c := 2) E rfl h35 dX8_readBlock_138 ?_
        refine nz_iconst (pc := 139) (v := 1) E dX8_readBlock_139 (by decide) ?_
        refine nz_iadd (pc := 140) E dX8_readBlock_140 ?_
        obtain ⟨h36, hf⟩ := nz_chk_t hf
        refine nz_iast (pc := 141) (c := 2) E rfl h36 dX8_readBlock_141 ?_
        refine nz_aload_n (pc := 142) (i := 0) E dX8_readBlock_142 rfl rfl ?_
        refine nz_dup (pc := 143) E dX8_readBlock_143 rfl ?_
        refine nz_getI (pc := 144) (c := 0) (kf := 3) E rfl rfl (nz_upT nz_uX8) (by decide) (List.mem_cons_of_mem _ nz_w679) rfl rfl dX8_readBlock_144 ?_
        refine nz_iconst (pc := 147) (v := 1) E dX8_readBlock_147 (by decide) ?_
        refine nz_iadd (pc := 148) E dX8_readBlock_148 ?_
        refine nz_putI (pc := 149) (c := 0) (kf := 3) E rfl rfl (nz_upT nz_uX8) (by decide) (List.mem_cons_of_mem _ nz_w679) rfl tyX8 tyX8_ok nmX8 rfl (tyX8_ok 3 (by decide)) rfl dX8_readBlock_149 ?_
        refine nz_goto (pc := 152) (tgt := 60) E dX8_readBlock_152 (by decide) ?_
        refine nz_weak (lv' := [(0, .ref (q 0)), (1, .int _), (2, .int _)]) ⟨rfl, rfl, rfl, trivial⟩ ?_
        exact ih  _ _ hf hK
set_option maxHeartbeats 4000000 in
set_option maxRecDepth 20000 in
theorem k_X8_readBlock {l : Launch} {w : nz_O} {q : Nat → Nat} (a0 : Int32) (a1 : Int32) (x : nz_S) (o : Int32 × nz_S) (hf : f_X8_readBlock a0 a1 x = some o) : nz_MI l yX8_readBlock (nz_T yX8_readBlock cX8_readBlock 3 (some .boolean)) (nz_R 1 25) w q nz_tM [.ref (q 0), .int a0, .int a1] x o := by
  refine nz_enterI (by decide) rfl (Nat.le_of_ble_eq_true rfl) rfl rfl ?_
  intro κ E hw hlq hR
  subst hw; subst hlq
  unfold f_X8_readBlock at hf
  refine nz_weak (lv' := [(0, .ref (q 0)), (1, .int a0), (2, .int a1)]) ⟨rfl, rfl, rfl, trivial⟩ ?_
  refine nz_aload_n (pc := 0) (i := 0) E dX8_readBlock_0 rfl rfl ?_
  refine nz_aload_n (pc := 1) (i := 0) E dX8_readBlock_1 rfl rfl ?_
  refine nz_getI (pc := 2) (c := 0) (kf := 3) E rfl rfl (nz_upT nz_uX8) (by decide) (List.mem_cons_of_mem _ nz_w679) rfl rfl dX8_readBlock_2 ?_
  obtain ⟨r1, x2, h3, hf⟩ := nz_bnd_t hf
  refine nz_callVI (pc := 5) (c0 := 0) (As := [.int _]) E rfl rfl (k_X8_letterAt   _ _ _ h3) (nz_cwV E nz_w781 nz_w783 nz_w22 nz_w67 nz_w784 ds_X8_letterAt ⟨Nat.le_of_ble_eq_true rfl, Nat.le_of_ble_eq_true rfl⟩ rfl rfl) rfl rfl (Nat.le_of_ble_eq_true rfl) dX8_readBlock_5 ?_
  refine nz_i2l (pc := 8) E dX8_readBlock_8 ?_
  refine nz_ldc2 (pc := 9) E (List.mem_cons_of_mem _ nz_w790) dX8_readBlock_9 ?_
  refine nz_ldc2 (pc := 12) E (List.mem_cons_of_mem _ nz_w791) dX8_readBlock_12 ?_
  obtain ⟨r4, x5, h6, hf⟩ := nz_bnd_t hf
  refine nz_callSI (pc := 15) (As := [.long _, .long _, .long _]) E (k_X8_in   _ _ _ _ _ h6) (nz_cwS E nz_w766 nz_w767 nz_w67 nz_w768 ds_X8_in ⟨Nat.le_of_ble_eq_true rfl, Nat.le_of_ble_eq_true rfl⟩ rfl rfl) rfl rfl (Nat.le_of_ble_eq_true rfl) dX8_readBlock_15 ?_
  refine nz_if_ne (pc := 18) (tgt := 23) E dX8_readBlock_18 (by decide) (fun h7 => ?_) (fun h7 => ?_)
  · have hf := nz_ite_f hf h7
    refine nz_aload_n (pc := 23) (i := 0) E dX8_readBlock_23 rfl rfl ?_
    refine nz_getR (pc := 24) (c := 0) (kf := 4) E rfl rfl (nz_upT nz_uX8) (by decide) (List.mem_cons_of_mem _ nz_w680) rfl rfl dX8_readBlock_24 ?_
    refine nz_iconst (pc := 27) (v := 1) E dX8_readBlock_27 (by decide) ?_
    refine nz_iload_n (pc := 28) (i := 1) E dX8_readBlock_28 rfl rfl ?_
    refine nz_iadd (pc := 29) E dX8_readBlock_29 ?_
    refine nz_aload_n (pc := 30) (i := 0) E dX8_readBlock_30 rfl rfl ?_
    refine nz_getR (pc := 31) (c := 0) (kf := 1) E rfl rfl (nz_upT nz_uX8) (by decide) (List.mem_cons_of_mem _ nz_w677) rfl rfl dX8_readBlock_31 ?_
    refine nz_aload_n (pc := 34) (i := 0) E dX8_readBlock_34 rfl rfl ?_
    refine nz_getI (pc := 35) (c := 0) (kf := 3) E rfl rfl (nz_upT nz_uX8) (by decide) (List.mem_cons_of_mem _ nz_w679) rfl rfl dX8_readBlock_35 ?_
    obtain ⟨h9, hf⟩ := nz_chk_t hf
    refine nz_iald (pc := 38) (c := 1) E rfl h9 dX8_readBlock_38 ?_
    obtain ⟨h11, hf⟩ := nz_chk_t hf
    refine nz_iast (pc := 39) (c := 2) E rfl h11 dX8_readBlock_39 ?_
    refine nz_aload_n (pc := 40) (i := 0) E dX8_readBlock_40 rfl rfl ?_
    refine nz_getR (pc := 41) (c := 0) (kf := 4) E rfl rfl (nz_upT nz_uX8) (by decide) (List.mem_cons_of_mem _ nz_w680) rfl rfl dX8_readBlock_41 ?_
    refine nz_bipush (pc := 44) (v := 13) E dX8_readBlock_44 (by decide) ?_
    refine nz_iload_n (pc := 46) (i := 1) E dX8_readBlock_46 rfl rfl ?_
    refine nz_iadd (pc := 47) E dX8_readBlock_47 ?_
    refine nz_iconst (pc := 48) (v := 0) E dX8_readBlock_48 (by decide) ?_
    obtain ⟨h14, hf⟩ := nz_chk_t hf
    refine nz_iast (pc := 49) (c := 2) E rfl h14 dX8_readBlock_49 ?_
    refine nz_aload_n (pc := 50) (i := 0) E dX8_readBlock_50 rfl rfl ?_
    refine nz_dup (pc := 51) E dX8_readBlock_51 rfl ?_
    refine nz_getI (pc := 52) (c := 0) (kf := 3) E rfl rfl (nz_upT nz_uX8) (by decide) (List.mem_cons_of_mem _ nz_w679) rfl rfl dX8_readBlock_52 ?_
    refine nz_iconst (pc := 55) (v := 1) E dX8_readBlock_55 (by decide) ?_
    refine nz_iadd (pc := 56) E dX8_readBlock_56 ?_
    refine nz_putI (pc := 57) (c := 0) (kf := 3) E rfl rfl (nz_upT nz_uX8) (by decide) (List.mem_cons_of_mem _ nz_w679) rfl tyX8 tyX8_ok nmX8 rfl (tyX8_ok 3 (by decide)) rfl dX8_readBlock_57 ?_
    refine nz_weak (lv' := [(0, .ref (q 0)), (1, .int _), (2, .int _)]) ⟨rfl, rfl, rfl, trivial⟩ ?_
    refine w_X8_readBlock_60 _ _ E hR _  _ _ hf (fun  x39 hf => ?_)
    refine nz_iconst (pc := 155) (v := 1) E dX8_readBlock_155 (by decide) ?_
    exact nz_iret (pc := 156) E hR rfl hf dX8_readBlock_156
  · have hf := nz_ite_t hf h7
    refine nz_iconst (pc := 21) (v := 0) E dX8_readBlock_21 (by decide) ?_
    exact nz_iret (pc := 22) E hR rfl hf dX8_readBlock_22
def f_X8_readGraph_7 : Nat → Int32 → nz_S → (Int32 → nz_S → Option (Int32 × nz_S)) → Option (Int32 × nz_S)
  | 0, _, _, _ => none
  | fu + 1, w1, x, K =>
  if (61 : Int32) ≤ w1 then
    K w1 x
  else
    nz_chk (nz_in w1 61) <|
    let x4 : nz_S := nz_put x 2 (w1).toNatClampNeg (0 : Int32)
    let v5 : Int32 := w1 + 1
    f_X8_readGraph_7 fu v5 x4 K
def f_X8_readGraph_73 (c1 : Int32) : Nat → Int32 → nz_S → (Int32 → nz_S → Option (Int32 × nz_S)) → Option (Int32 × nz_S)
  | 0, _, _, _ => none
  | fu + 1, w2, x, K =>
  if c1 ≤ w2 then
    K w2 x
  else
    nz_bnd (f_X8_readBlock  w2 c1 x) fun r23 x24 =>
    if r23 = (0 : Int32) then
      some ((x24.1 0 3), x24)
    else
      let v27 : Int32 := w2 + 1
      f_X8_readGraph_73 c1 fu v27 x24 K
def f_X8_readGraph (x : nz_S) : Option (Int32 × nz_S) :=
  let x1 : nz_S := nz_put x 0 3 (0 : Int32)
  f_X8_readGraph_7 nz_F (0 : Int32) x1 fun u7 x6 =>
    nz_bnd (f_X8_letterAt  (0 : Int32) x6) fun r8 x9 =>
    if r8 = (71 : Int32) then
      let x12 : nz_S := nz_put x9 0 3 (1 : Int32)
      nz_bnd (f_X8_letterAt  (1 : Int32) x12) fun r13 x14 =>
      let v16 : Int32 := (r13 - (48 : Int32))
      nz_bnd (f_X8_in  (v16).toInt64 (1 : Int64) (8 : Int64) x14) fun r17 x18 =>
      if r17 = (0 : Int32) then
        some ((1 : Int32), x18)
      else
        let x21 : nz_S := nz_put x18 0 3 (2 : Int32)
        f_X8_readGraph_73 v16 nz_F (0 : Int32) x21 fun u29 x28 =>
          nz_chk (nz_in (0 : Int32) 61) <|
          let x31 : nz_S := nz_put x28 2 ((0 : Int32)).toNatClampNeg v16
          if (x31.1 0 3) = (x31.1 0 2) then
            some ((-9 : Int32), x31)
          else
            some ((x31.1 0 3), x31)
    else
      some ((0 : Int32), x9)
theorem ds_X8_readGraph : nz_dsc yX8_readGraph 0 := by unfold nz_dsc; decide +kernel
set_option maxHeartbeats 4000000 in
set_option maxRecDepth 20000 in
theorem w_X8_readGraph_7 {κ : nz_C} {q : Nat → Nat} {o : Int32 × nz_S} (E : nz_Env κ q nz_tM 3 cX8_readGraph RX8 (nz_T yX8_readGraph cX8_readGraph 3 (some .int)) (nz_R 2 47)) (hR : nz_RI κ q nz_tM .int o) : ∀ (fu : Nat) (w1 : Int32) (x : nz_S) (K : Int32 → nz_S → Option (Int32 × nz_S)), f_X8_readGraph_7 fu w1 x K = some o → (∀ (w1 : Int32) (x : nz_S), K w1 x = some o → nz_St κ q nz_tM 3 26 [(0, .ref (q 0)), (1, .int w1)] [] x) → nz_St κ q nz_tM 3 7 [(0, .ref (q 0)), (1, .int w1)] [] x := by
  intro fu
  induction fu with
  | zero => intro w1 x K hf; rw [f_X8_readGraph_7] at hf; cases hf
  | succ fu ih =>
    intro w1 x K hf hK
    rw [f_X8_readGraph_7] at hf
    refine nz_iload_n (pc := 7) (i := 1) E dX8_readGraph_7 rfl rfl ?_
    refine nz_bipush (pc := 8) (v := 61) E dX8_readGraph_8 (by decide) ?_
    refine nz_icmp_ge (pc := 10) (tgt := 26) E dX8_readGraph_10 (by decide) (fun h2 => ?_) (fun h2 => ?_)
    · have hf := nz_ite_t hf h2
      refine nz_weak (lv' := [(0, .ref (q 0)), (1, .int _)]) ⟨rfl, rfl, trivial⟩ ?_
      exact hK _ _ hf
    · have hf := nz_ite_f hf h2
      refine nz_aload_n (pc := 13) (i := 0) E dX8_readGraph_13 rfl rfl ?_
      refine nz_getR (pc := 14) (c := 0) (kf := 4) E rfl rfl (nz_upT nz_uX8) (by decide) (List.mem_cons_of_mem _ nz_w680) rfl rfl dX8_readGraph_14 ?_
      refine nz_iload_n (pc := 17) (i := 1) E dX8_readGraph_17 rfl rfl ?_
      refine nz_iconst (pc := 18) (v := 0) E dX8_readGraph_18 (by decide) ?_
      obtain ⟨h3, hf⟩ := nz_chk_t hf
      refine nz_iast (pc := 19) (c := 2) E rfl h3 dX8_readGraph_19 ?_
      refine nz_iinc (pc := 20) (i := 1) (w := 1) E dX8_readGraph_20 rfl (by decide) (by decide) rfl ?_
      refine nz_goto (pc := 23) (tgt := 7) E dX8_readGraph_23 (by decide) ?_
      refine nz_weak (lv' := [(0, .ref (q 0)), (1, .int _)]) ⟨rfl, rfl, trivial⟩ ?_
      exact ih _ _ _ hf hK
set_option maxHeartbeats 4000000 in
set_option maxRecDepth 20000 in
theorem w_X8_readGraph_73 {κ : nz_C} {q : Nat → Nat} {o : Int32 × nz_S} (c1 : Int32) (E : nz_Env κ q nz_tM 3 cX8_readGraph RX8 (nz_T yX8_readGraph cX8_readGraph 3 (some .int)) (nz_R 2 47)) (hR : nz_RI κ q nz_tM .int o) : ∀ (fu : Nat) (w2 : Int32) (x : nz_S) (K : Int32 → nz_S → Option (Int32 × nz_S)), f_X8_readGraph_73 c1 fu w2 x K = some o → (∀ (w2 : Int32) (x : nz_S), K w2 x = some o → nz_St κ q nz_tM 3 98 [(0, .ref (q 0)), (1, .int c1), (2, .int w2)] [] x) → nz_St κ q nz_tM 3 73 [(0, .ref (q 0)), (1, .int c1), (2, .int w2)] [] x := by
  intro fu
  induction fu with
  | zero => intro w2 x K hf; rw [f_X8_readGraph_73] at hf; cases hf
  | succ fu ih =>
    intro w2 x K hf hK
    rw [f_X8_readGraph_73] at hf
    refine nz_iload_n (pc := 73) (i := 2) E dX8_readGraph_73 rfl rfl ?_
    refine nz_iload_n (pc := 74) (i := 1) E dX8_readGraph_74 rfl rfl ?_
    refine nz_icmp_ge (pc := 75) (tgt := 98) E dX8_readGraph_75 (by decide) (fun h22 => ?_) (fun h22 => ?_)
    · have hf := nz_ite_t hf h22
      refine nz_weak (lv' := [(0, .ref (q 0)), (1, .int _), (2, .int _)]) ⟨rfl, rfl, rfl, trivial⟩ ?_
      exact hK _ _ hf
    · have hf := nz_ite_f hf h22
      refine nz_aload_n (pc := 78) (i := 0) E dX8_readGraph_78 rfl rfl ?_
      refine nz_iload_n (pc := 79) (i := 2) E dX8_readGraph_79 rfl rfl ?_
      refine nz_iload_n (pc := 80) (i := 1) E dX8_readGraph_80 rfl rfl ?_
      obtain ⟨r23, x24, h25, hf⟩ := nz_bnd_t hf
      refine nz_callVI (pc := 81) (c0 := 0) (As := [.int _, .int _]) E rfl rfl (k_X8_readBlock   _ _ _ _ h25) (nz_cwV E nz_w786 nz_w788 nz_w23 nz_w67 nz_w789 ds_X8_readBlock ⟨Nat.le_of_ble_eq_true rfl, Nat.le_of_ble_eq_true rfl⟩ rfl rfl) rfl rfl (Nat.le_of_ble_eq_true rfl) dX8_readGraph_81 ?_
      refine nz_if_ne (pc := 84) (tgt := 92) E dX8_readGraph_84 (by decide) (fun h26 => ?_) (fun h26 => ?_)
      · have hf := nz_ite_f hf h26
        refine nz_iinc (pc := 92) (i := 2) (w := 1) E dX8_readGraph_92 rfl (by decide) (by decide) rfl ?_
        refine nz_goto (pc := 95) (tgt := 73) E dX8_readGraph_95 (by decide) ?_
        refine nz_weak (lv' := [(0, .ref (q 0)), (1, .int _), (2, .int _)]) ⟨rfl, rfl, rfl, trivial⟩ ?_
        exact ih _ _ _ hf hK
      · have hf := nz_ite_t hf h26
        refine nz_aload_n (pc := 87) (i := 0) E dX8_readGraph_87 rfl rfl ?_
        refine nz_getI (pc := 88) (c := 0) (kf := 3) E rfl rfl (nz_upT nz_uX8) (by decide) (List.mem_cons_of_mem _ nz_w679) rfl rfl dX8_readGraph_88 ?_
        exact nz_iret (pc := 91) E hR rfl hf dX8_readGraph_91
set_option maxHeartbeats 4000000 in
set_option maxRecDepth 20000 in
theorem k_X8_readGraph {l : Launch} {w : nz_O} {q : Nat → Nat} (x : nz_S) (o : Int32 × nz_S) (hf : f_X8_readGraph x = some o) : nz_MI l yX8_readGraph (nz_T yX8_readGraph cX8_readGraph 3 (some .int)) (nz_R 2 47) w q nz_tM [.ref (q 0)] x o := by
  refine nz_enterI (by decide) rfl (Nat.le_of_ble_eq_true rfl) rfl rfl ?_
  intro κ E hw hlq hR
  subst hw; subst hlq
  unfold f_X8_readGraph at hf
  refine nz_weak (lv' := [(0, .ref (q 0))]) ⟨rfl, trivial⟩ ?_
  refine nz_aload_n (pc := 0) (i := 0) E dX8_readGraph_0 rfl rfl ?_
  refine nz_iconst (pc := 1) (v := 0) E dX8_readGraph_1 (by decide) ?_
  refine nz_putI (pc := 2) (c := 0) (kf := 3) E rfl rfl (nz_upT nz_uX8) (by decide) (List.mem_cons_of_mem _ nz_w679) rfl tyX8 tyX8_ok nmX8 rfl (tyX8_ok 3 (by decide)) rfl dX8_readGraph_2 ?_
  refine nz_iconst (pc := 5) (v := 0) E dX8_readGraph_5 (by decide) ?_
  refine nz_istore_n (pc := 6) (i := 1) E dX8_readGraph_6 rfl (by decide) rfl ?_
  refine nz_weak (lv' := [(0, .ref (q 0)), (1, .int _)]) ⟨rfl, rfl, trivial⟩ ?_
  refine w_X8_readGraph_7 E hR _ _ _ _ hf (fun u7 x6 hf => ?_)
  refine nz_aload_n (pc := 26) (i := 0) E dX8_readGraph_26 rfl rfl ?_
  refine nz_iconst (pc := 27) (v := 0) E dX8_readGraph_27 (by decide) ?_
  obtain ⟨r8, x9, h10, hf⟩ := nz_bnd_t hf
  refine nz_callVI (pc := 28) (c0 := 0) (As := [.int _]) E rfl rfl (k_X8_letterAt   _ _ _ h10) (nz_cwV E nz_w781 nz_w783 nz_w22 nz_w67 nz_w784 ds_X8_letterAt ⟨Nat.le_of_ble_eq_true rfl, Nat.le_of_ble_eq_true rfl⟩ rfl rfl) rfl rfl (Nat.le_of_ble_eq_true rfl) dX8_readGraph_28 ?_
  refine nz_bipush (pc := 31) (v := 71) E dX8_readGraph_31 (by decide) ?_
  refine nz_icmp_eq (pc := 33) (tgt := 38) E dX8_readGraph_33 (by decide) (fun h11 => ?_) (fun h11 => ?_)
  · have hf := nz_ite_t hf h11
    refine nz_aload_n (pc := 38) (i := 0) E dX8_readGraph_38 rfl rfl ?_
    refine nz_iconst (pc := 39) (v := 1) E dX8_readGraph_39 (by decide) ?_
    refine nz_putI (pc := 40) (c := 0) (kf := 3) E rfl rfl (nz_upT nz_uX8) (by decide) (List.mem_cons_of_mem _ nz_w679) rfl tyX8 tyX8_ok nmX8 rfl (tyX8_ok 3 (by decide)) rfl dX8_readGraph_40 ?_
    refine nz_aload_n (pc := 43) (i := 0) E dX8_readGraph_43 rfl rfl ?_
    refine nz_iconst (pc := 44) (v := 1) E dX8_readGraph_44 (by decide) ?_
    obtain ⟨r13, x14, h15, hf⟩ := nz_bnd_t hf
    refine nz_callVI (pc := 45) (c0 := 0) (As := [.int _]) E rfl rfl (k_X8_letterAt   _ _ _ h15) (nz_cwV E nz_w781 nz_w783 nz_w22 nz_w67 nz_w784 ds_X8_letterAt ⟨Nat.le_of_ble_eq_true rfl, Nat.le_of_ble_eq_true rfl⟩ rfl rfl) rfl rfl (Nat.le_of_ble_eq_true rfl) dX8_readGraph_45 ?_
    refine nz_bipush (pc := 48) (v := 48) E dX8_readGraph_48 (by decide) ?_
    refine nz_isub (pc := 50) E dX8_readGraph_50 ?_
    refine nz_istore_n (pc := 51) (i := 1) E dX8_readGraph_51 rfl (by decide) rfl ?_
    refine nz_iload_n (pc := 52) (i := 1) E dX8_readGraph_52 rfl rfl ?_
    refine nz_i2l (pc := 53) E dX8_readGraph_53 ?_
    refine nz_lconst (pc := 54) (v := 1) E dX8_readGraph_54 (by decide) ?_
    refine nz_ldc2 (pc := 55) E (List.mem_cons_of_mem _ nz_w785) dX8_readGraph_55 ?_
    obtain ⟨r17, x18, h19, hf⟩ := nz_bnd_t hf
    refine nz_callSI (pc := 58) (As := [.long _, .long _, .long _]) E (k_X8_in   _ _ _ _ _ h19) (nz_cwS E nz_w766 nz_w767 nz_w67 nz_w768 ds_X8_in ⟨Nat.le_of_ble_eq_true rfl, Nat.le_of_ble_eq_true rfl⟩ rfl rfl) rfl rfl (Nat.le_of_ble_eq_true rfl) dX8_readGraph_58 ?_
    refine nz_if_ne (pc := 61) (tgt := 66) E dX8_readGraph_61 (by decide) (fun h20 => ?_) (fun h20 => ?_)
    · have hf := nz_ite_f hf h20
      refine nz_aload_n (pc := 66) (i := 0) E dX8_readGraph_66 rfl rfl ?_
      refine nz_iconst (pc := 67) (v := 2) E dX8_readGraph_67 (by decide) ?_
      refine nz_putI (pc := 68) (c := 0) (kf := 3) E rfl rfl (nz_upT nz_uX8) (by decide) (List.mem_cons_of_mem _ nz_w679) rfl tyX8 tyX8_ok nmX8 rfl (tyX8_ok 3 (by decide)) rfl dX8_readGraph_68 ?_
      refine nz_iconst (pc := 71) (v := 0) E dX8_readGraph_71 (by decide) ?_
      refine nz_istore_n (pc := 72) (i := 2) E dX8_readGraph_72 rfl (by decide) rfl ?_
      refine nz_weak (lv' := [(0, .ref (q 0)), (1, .int _), (2, .int _)]) ⟨rfl, rfl, rfl, trivial⟩ ?_
      refine w_X8_readGraph_73 _ E hR _ _ _ _ hf (fun u29 x28 hf => ?_)
      refine nz_aload_n (pc := 98) (i := 0) E dX8_readGraph_98 rfl rfl ?_
      refine nz_getR (pc := 99) (c := 0) (kf := 4) E rfl rfl (nz_upT nz_uX8) (by decide) (List.mem_cons_of_mem _ nz_w680) rfl rfl dX8_readGraph_99 ?_
      refine nz_iconst (pc := 102) (v := 0) E dX8_readGraph_102 (by decide) ?_
      refine nz_iload_n (pc := 103) (i := 1) E dX8_readGraph_103 rfl rfl ?_
      obtain ⟨h30, hf⟩ := nz_chk_t hf
      refine nz_iast (pc := 104) (c := 2) E rfl h30 dX8_readGraph_104 ?_
      refine nz_aload_n (pc := 105) (i := 0) E dX8_readGraph_105 rfl rfl ?_
      refine nz_getI (pc := 106) (c := 0) (kf := 3) E rfl rfl (nz_upT nz_uX8) (by decide) (List.mem_cons_of_mem _ nz_w679) rfl rfl dX8_readGraph_106 ?_
      refine nz_aload_n (pc := 109) (i := 0) E dX8_readGraph_109 rfl rfl ?_
      refine nz_getI (pc := 110) (c := 0) (kf := 2) E rfl rfl (nz_upT nz_uX8) (by decide) (List.mem_cons_of_mem _ nz_w678) rfl rfl dX8_readGraph_110 ?_
      refine nz_icmp_ne (pc := 113) (tgt := 121) E dX8_readGraph_113 (by decide) (fun h32 => ?_) (fun h32 => ?_)
      · have hf := nz_ite_f hf h32
        refine nz_aload_n (pc := 121) (i := 0) E dX8_readGraph_121 rfl rfl ?_
        refine nz_getI (pc := 122) (c := 0) (kf := 3) E rfl rfl (nz_upT nz_uX8) (by decide) (List.mem_cons_of_mem _ nz_w679) rfl rfl dX8_readGraph_122 ?_
        exact nz_iret (pc := 125) E hR rfl hf dX8_readGraph_125
      · have hf := nz_ite_t hf h32
        refine nz_bipush (pc := 116) (v := -9) E dX8_readGraph_116 (by decide) ?_
        refine nz_goto (pc := 118) (tgt := 125) E dX8_readGraph_118 (by decide) ?_
        exact nz_iret (pc := 125) E hR rfl hf dX8_readGraph_125
    · have hf := nz_ite_t hf h20
      refine nz_iconst (pc := 64) (v := 1) E dX8_readGraph_64 (by decide) ?_
      exact nz_iret (pc := 65) E hR rfl hf dX8_readGraph_65
  · have hf := nz_ite_f hf h11
    refine nz_iconst (pc := 36) (v := 0) E dX8_readGraph_36 (by decide) ?_
    exact nz_iret (pc := 37) E hR rfl hf dX8_readGraph_37
def f_X8_fault (x : nz_S) : Option (Int32 × nz_S) :=
  let x1 : nz_S := nz_put x 0 0 (0 : Int32)
  nz_bnd (f_X8_readGraph   x1) fun r2 x3 =>
  some (r2, x3)
theorem ds_X8_fault : nz_dsc yX8_fault 0 := by unfold nz_dsc; decide +kernel
set_option maxHeartbeats 4000000 in
set_option maxRecDepth 20000 in
theorem k_X8_fault {l : Launch} {w : nz_O} {q : Nat → Nat} (x : nz_S) (o : Int32 × nz_S) (hf : f_X8_fault x = some o) : nz_MI l yX8_fault (nz_T yX8_fault cX8_fault 1 (some .int)) (nz_R 3 69) w q nz_tM [.ref (q 0)] x o := by
  refine nz_enterI (by decide) rfl (Nat.le_of_ble_eq_true rfl) rfl rfl ?_
  intro κ E hw hlq hR
  subst hw; subst hlq
  unfold f_X8_fault at hf
  refine nz_weak (lv' := [(0, .ref (q 0))]) ⟨rfl, trivial⟩ ?_
  refine nz_aload_n (pc := 0) (i := 0) E dX8_fault_0 rfl rfl ?_
  refine nz_iconst (pc := 1) (v := 0) E dX8_fault_1 (by decide) ?_
  refine nz_putI (pc := 2) (c := 0) (kf := 0) E rfl rfl (nz_upT nz_uX8) (by decide) (List.mem_cons_of_mem _ nz_w676) rfl tyX8 tyX8_ok nmX8 rfl (tyX8_ok 0 (by decide)) rfl dX8_fault_2 ?_
  refine nz_aload_n (pc := 5) (i := 0) E dX8_fault_5 rfl rfl ?_
  obtain ⟨r2, x3, h4, hf⟩ := nz_bnd_t hf
  refine nz_callVI (pc := 6) (c0 := 0) (As := []) E rfl rfl (k_X8_readGraph   _ _ h4) (nz_cwV E nz_w777 nz_w779 nz_w21 nz_w67 nz_w780 ds_X8_readGraph ⟨Nat.le_of_ble_eq_true rfl, Nat.le_of_ble_eq_true rfl⟩ rfl rfl) rfl rfl (Nat.le_of_ble_eq_true rfl) dX8_fault_6 ?_
  exact nz_iret (pc := 9) E hR rfl hf dX8_fault_9
def f_X8_graph_19 : Nat → Int32 → nz_S → (Int32 → nz_S → Option (Int32 × nz_S)) → Option (Int32 × nz_S)
  | 0, _, _, _ => none
  | fu + 1, w1, x, K =>
  if (61 : Int32) ≤ w1 then
    K w1 x
  else
    nz_chk (nz_in w1 61) <|
    nz_chk (nz_in w1 61) <|
    let x9 : nz_S := nz_put x 3 (w1).toNatClampNeg (x.1 2 (w1).toNatClampNeg)
    let v10 : Int32 := w1 + 1
    f_X8_graph_19 fu v10 x9 K
def f_X8_graph (x : nz_S) : Option (Int32 × nz_S) :=
  let x1 : nz_S := nz_put x 0 0 (0 : Int32)
  nz_bnd (f_X8_readGraph   x1) fun r2 x3 =>
  if r2 = (-9 : Int32) then
    f_X8_graph_19 nz_F (0 : Int32) x3 fun u12 x11 =>
      let x13 : nz_S := nz_put x11 0 8 (0 : Int32)
      nz_chk (nz_in (0 : Int32) 2) <|
      let x15 : nz_S := nz_put x13 7 ((0 : Int32)).toNatClampNeg (0 : Int32)
      nz_chk (nz_in (1 : Int32) 2) <|
      let x17 : nz_S := nz_put x15 7 ((1 : Int32)).toNatClampNeg (0 : Int32)
      nz_chk (nz_in (0 : Int32) 61) <|
      some ((x17.1 3 ((0 : Int32)).toNatClampNeg), x17)
  else
    some ((-3 : Int32), x3)
theorem ds_X8_graph : nz_dsc yX8_graph 0 := by unfold nz_dsc; decide +kernel
set_option maxHeartbeats 4000000 in
set_option maxRecDepth 20000 in
theorem w_X8_graph_19 {κ : nz_C} {q : Nat → Nat} {o : Int32 × nz_S} (E : nz_Env κ q nz_tM 2 cX8_graph RX8 (nz_T yX8_graph cX8_graph 2 (some .int)) (nz_R 3 69)) (hR : nz_RI κ q nz_tM .int o) : ∀ (fu : Nat) (w1 : Int32) (x : nz_S) (K : Int32 → nz_S → Option (Int32 × nz_S)), f_X8_graph_19 fu w1 x K = some o → (∀ (w1 : Int32) (x : nz_S), K w1 x = some o → nz_St κ q nz_tM 2 43 [(0, .ref (q 0)), (1, .int w1)] [] x) → nz_St κ q nz_tM 2 19 [(0, .ref (q 0)), (1, .int w1)] [] x := by
  intro fu
  induction fu with
  | zero => intro w1 x K hf; rw [f_X8_graph_19] at hf; cases hf
  | succ fu ih =>
    intro w1 x K hf hK
    rw [f_X8_graph_19] at hf
    refine nz_iload_n (pc := 19) (i := 1) E dX8_graph_19 rfl rfl ?_
    refine nz_bipush (pc := 20) (v := 61) E dX8_graph_20 (by decide) ?_
    refine nz_icmp_ge (pc := 22) (tgt := 43) E dX8_graph_22 (by decide) (fun h6 => ?_) (fun h6 => ?_)
    · have hf := nz_ite_t hf h6
      refine nz_weak (lv' := [(0, .ref (q 0)), (1, .int _)]) ⟨rfl, rfl, trivial⟩ ?_
      exact hK _ _ hf
    · have hf := nz_ite_f hf h6
      refine nz_aload_n (pc := 25) (i := 0) E dX8_graph_25 rfl rfl ?_
      refine nz_getR (pc := 26) (c := 0) (kf := 5) E rfl rfl (nz_upT nz_uX8) (by decide) (List.mem_cons_of_mem _ nz_w681) rfl rfl dX8_graph_26 ?_
      refine nz_iload_n (pc := 29) (i := 1) E dX8_graph_29 rfl rfl ?_
      refine nz_aload_n (pc := 30) (i := 0) E dX8_graph_30 rfl rfl ?_
      refine nz_getR (pc := 31) (c := 0) (kf := 4) E rfl rfl (nz_upT nz_uX8) (by decide) (List.mem_cons_of_mem _ nz_w680) rfl rfl dX8_graph_31 ?_
      refine nz_iload_n (pc := 34) (i := 1) E dX8_graph_34 rfl rfl ?_
      obtain ⟨h7, hf⟩ := nz_chk_t hf
      refine nz_iald (pc := 35) (c := 2) E rfl h7 dX8_graph_35 ?_
      obtain ⟨h8, hf⟩ := nz_chk_t hf
      refine nz_iast (pc := 36) (c := 3) E rfl h8 dX8_graph_36 ?_
      refine nz_iinc (pc := 37) (i := 1) (w := 1) E dX8_graph_37 rfl (by decide) (by decide) rfl ?_
      refine nz_goto (pc := 40) (tgt := 19) E dX8_graph_40 (by decide) ?_
      refine nz_weak (lv' := [(0, .ref (q 0)), (1, .int _)]) ⟨rfl, rfl, trivial⟩ ?_
      exact ih _ _ _ hf hK
set_option maxHeartbeats 4000000 in
set_option maxRecDepth 20000 in
theorem k_X8_graph {l : Launch} {w : nz_O} {q : Nat → Nat} (x : nz_S) (o : Int32 × nz_S) (hf : f_X8_graph x = some o) : nz_MI l yX8_graph (nz_T yX8_graph cX8_graph 2 (some .int)) (nz_R 3 69) w q nz_tM [.ref (q 0)] x o := by
  refine nz_enterI (by decide) rfl (Nat.le_of_ble_eq_true rfl) rfl rfl ?_
  intro κ E hw hlq hR
  subst hw; subst hlq
  unfold f_X8_graph at hf
  refine nz_weak (lv' := [(0, .ref (q 0))]) ⟨rfl, trivial⟩ ?_
  refine nz_aload_n (pc := 0) (i := 0) E dX8_graph_0 rfl rfl ?_
  refine nz_iconst (pc := 1) (v := 0) E dX8_graph_1 (by decide) ?_
  refine nz_putI (pc := 2) (c := 0) (kf := 0) E rfl rfl (nz_upT nz_uX8) (by decide) (List.mem_cons_of_mem _ nz_w676) rfl tyX8 tyX8_ok nmX8 rfl (tyX8_ok 0 (by decide)) rfl dX8_graph_2 ?_
  refine nz_aload_n (pc := 5) (i := 0) E dX8_graph_5 rfl rfl ?_
  obtain ⟨r2, x3, h4, hf⟩ := nz_bnd_t hf
  refine nz_callVI (pc := 6) (c0 := 0) (As := []) E rfl rfl (k_X8_readGraph   _ _ h4) (nz_cwV E nz_w777 nz_w779 nz_w21 nz_w67 nz_w780 ds_X8_readGraph ⟨Nat.le_of_ble_eq_true rfl, Nat.le_of_ble_eq_true rfl⟩ rfl rfl) rfl rfl (Nat.le_of_ble_eq_true rfl) dX8_graph_6 ?_
  refine nz_bipush (pc := 9) (v := -9) E dX8_graph_9 (by decide) ?_
  refine nz_icmp_eq (pc := 11) (tgt := 17) E dX8_graph_11 (by decide) (fun h5 => ?_) (fun h5 => ?_)
  · have hf := nz_ite_t hf h5
    refine nz_iconst (pc := 17) (v := 0) E dX8_graph_17 (by decide) ?_
    refine nz_istore_n (pc := 18) (i := 1) E dX8_graph_18 rfl (by decide) rfl ?_
    refine nz_weak (lv' := [(0, .ref (q 0)), (1, .int _)]) ⟨rfl, rfl, trivial⟩ ?_
    refine w_X8_graph_19 E hR _ _ _ _ hf (fun u12 x11 hf => ?_)
    refine nz_aload_n (pc := 43) (i := 0) E dX8_graph_43 rfl rfl ?_
    refine nz_iconst (pc := 44) (v := 0) E dX8_graph_44 (by decide) ?_
    refine nz_putI (pc := 45) (c := 0) (kf := 8) E rfl rfl (nz_upT nz_uX8) (by decide) (List.mem_cons_of_mem _ nz_w684) rfl tyX8 tyX8_ok nmX8 rfl (tyX8_ok 8 (by decide)) rfl dX8_graph_45 ?_
    refine nz_aload_n (pc := 48) (i := 0) E dX8_graph_48 rfl rfl ?_
    refine nz_getR (pc := 49) (c := 0) (kf := 10) E rfl rfl (nz_upT nz_uX8) (by decide) (List.mem_cons_of_mem _ nz_w686) rfl rfl dX8_graph_49 ?_
    refine nz_iconst (pc := 52) (v := 0) E dX8_graph_52 (by decide) ?_
    refine nz_iconst (pc := 53) (v := 0) E dX8_graph_53 (by decide) ?_
    obtain ⟨h14, hf⟩ := nz_chk_t hf
    refine nz_zast (pc := 54) (c := 7) E rfl h14 rfl dX8_graph_54 ?_
    refine nz_aload_n (pc := 55) (i := 0) E dX8_graph_55 rfl rfl ?_
    refine nz_getR (pc := 56) (c := 0) (kf := 10) E rfl rfl (nz_upT nz_uX8) (by decide) (List.mem_cons_of_mem _ nz_w686) rfl rfl dX8_graph_56 ?_
    refine nz_iconst (pc := 59) (v := 1) E dX8_graph_59 (by decide) ?_
    refine nz_iconst (pc := 60) (v := 0) E dX8_graph_60 (by decide) ?_
    obtain ⟨h16, hf⟩ := nz_chk_t hf
    refine nz_zast (pc := 61) (c := 7) E rfl h16 rfl dX8_graph_61 ?_
    refine nz_aload_n (pc := 62) (i := 0) E dX8_graph_62 rfl rfl ?_
    refine nz_getR (pc := 63) (c := 0) (kf := 5) E rfl rfl (nz_upT nz_uX8) (by decide) (List.mem_cons_of_mem _ nz_w681) rfl rfl dX8_graph_63 ?_
    refine nz_iconst (pc := 66) (v := 0) E dX8_graph_66 (by decide) ?_
    obtain ⟨h18, hf⟩ := nz_chk_t hf
    refine nz_iald (pc := 67) (c := 3) E rfl h18 dX8_graph_67 ?_
    exact nz_iret (pc := 68) E hR rfl hf dX8_graph_68
  · have hf := nz_ite_f hf h5
    refine nz_bipush (pc := 14) (v := -3) E dX8_graph_14 (by decide) ?_
    exact nz_iret (pc := 16) E hR rfl hf dX8_graph_16
def f_X8_goes_5 (p : Nat) (c1 : Int32) (c2 : Int32) : Nat → Int32 → Int32 → nz_S → (Int32 → Int32 → nz_S → Option (Int32 × nz_S)) → Option (Int32 × nz_S)
  | 0, _, _, _, _ => none
  | fu + 1, w3, w4, x, K =>
  let v1 : Int32 := ((13 : Int32) + c1)
  nz_chk (nz_in v1 61) <|
  if (x.1 p (v1).toNatClampNeg) ≤ w4 then
    K w3 w4 x
  else
    if w3 = (0 : Int32) then
      let v6 : Int32 := (((25 : Int32) + ((3 : Int32) * c1)) + w4)
      nz_chk (nz_in v6 61) <|
      if (x.1 p (v6).toNatClampNeg) = c2 then
        let v10 : Int32 := w4 + 1
        f_X8_goes_5 p c1 c2 fu (1 : Int32) v10 x K
      else
        let v9 : Int32 := w4 + 1
        f_X8_goes_5 p c1 c2 fu (0 : Int32) v9 x K
    else
      let v5 : Int32 := w4 + 1
      f_X8_goes_5 p c1 c2 fu (1 : Int32) v5 x K
def f_X8_goes (p : Nat) (a0 : Int32) (a1 : Int32) (x : nz_S) : Option (Int32 × nz_S) :=
  f_X8_goes_5 p a0 a1 nz_F (0 : Int32) (0 : Int32) x fun u12 u13 x11 =>
    nz_chk (nz_bo u12) <|
    some (u12, x11)
theorem ds_X8_goes : nz_dsc yX8_goes 3 := by unfold nz_dsc; decide +kernel
set_option maxHeartbeats 4000000 in
set_option maxRecDepth 20000 in
theorem w_X8_goes_5 {κ : nz_C} {q : Nat → Nat} {o : Int32 × nz_S} (p : Nat) (hp : nz_isP p) (c1 : Int32) (c2 : Int32) (E : nz_Env κ q nz_tM 5 cX8_goes RX8 (nz_T yX8_goes cX8_goes 5 (some .boolean)) (nz_R 0 0)) (hR : nz_RI κ q nz_tM .boolean o) : ∀ (fu : Nat) (w3 : Int32) (w4 : Int32) (x : nz_S) (K : Int32 → Int32 → nz_S → Option (Int32 × nz_S)), f_X8_goes_5 p c1 c2 fu w3 w4 x K = some o → (∀ (w3 : Int32) (w4 : Int32) (x : nz_S), K w3 w4 x = some o → nz_St κ q nz_tM 5 47 [(0, .ref (q p)), (1, .int c1), (2, .int c2), (3, .int w3), (4, .int w4)] [] x) → nz_St κ q nz_tM 5 5 [(0, .ref (q p)), (1, .int c1), (2, .int c2), (3, .int w3), (4, .int w4)] [] x := by
  intro fu
  induction fu with
  | zero => intro w3 w4 x K hf; rw [f_X8_goes_5] at hf; cases hf
  | succ fu ih =>
    intro w3 w4 x K hf hK
    rw [f_X8_goes_5] at hf
    refine nz_iload (pc := 5) (i := 4) E dX8_goes_5 rfl ?_
    refine nz_aload_n (pc := 7) (i := 0) E dX8_goes_7 rfl rfl ?_
    refine nz_bipush (pc := 8) (v := 13) E dX8_goes_8 (by decide) ?_
    refine nz_iload_n (pc := 10) (i := 1) E dX8_goes_10 rfl rfl ?_
    refine nz_iadd (pc := 11) E dX8_goes_11 ?_
    obtain ⟨h2, hf⟩ := nz_chk_t hf
    refine nz_iald (pc := 12) (c := p) E hp h2 dX8_goes_12 ?_
    refine nz_icmp_ge (pc := 13) (tgt := 47) E dX8_goes_13 (by decide) (fun h3 => ?_) (fun h3 => ?_)
    · have hf := nz_ite_t hf h3
      refine nz_weak (lv' := [(0, .ref (q p)), (1, .int _), (2, .int _), (3, .int _), (4, .int _)]) ⟨rfl, rfl, rfl, rfl, rfl, trivial⟩ ?_
      exact hK _ _ _ hf
    · have hf := nz_ite_f hf h3
      refine nz_iload_n (pc := 16) (i := 3) E dX8_goes_16 rfl rfl ?_
      refine nz_if_ne (pc := 17) (tgt := 35) E dX8_goes_17 (by decide) (fun h4 => ?_) (fun h4 => ?_)
      · have hf := nz_ite_f hf h4
        refine nz_iconst (pc := 35) (v := 1) E dX8_goes_35 (by decide) ?_
        refine nz_goto (pc := 36) (tgt := 40) E dX8_goes_36 (by decide) ?_
        refine nz_istore_n (pc := 40) (i := 3) E dX8_goes_40 rfl (by decide) rfl ?_
        refine nz_iinc (pc := 41) (i := 4) (w := 1) E dX8_goes_41 rfl (by decide) (by decide) rfl ?_
        refine nz_goto (pc := 44) (tgt := 5) E dX8_goes_44 (by decide) ?_
        refine nz_weak (lv' := [(0, .ref (q p)), (1, .int _), (2, .int _), (3, .int _), (4, .int _)]) ⟨rfl, rfl, rfl, rfl, rfl, trivial⟩ ?_
        exact ih _ _ _ _ hf hK
      · have hf := nz_ite_t hf h4
        refine nz_aload_n (pc := 20) (i := 0) E dX8_goes_20 rfl rfl ?_
        refine nz_bipush (pc := 21) (v := 25) E dX8_goes_21 (by decide) ?_
        refine nz_iconst (pc := 23) (v := 3) E dX8_goes_23 (by decide) ?_
        refine nz_iload_n (pc := 24) (i := 1) E dX8_goes_24 rfl rfl ?_
        refine nz_imul (pc := 25) E dX8_goes_25 ?_
        refine nz_iadd (pc := 26) E dX8_goes_26 ?_
        refine nz_iload (pc := 27) (i := 4) E dX8_goes_27 rfl ?_
        refine nz_iadd (pc := 29) E dX8_goes_29 ?_
        obtain ⟨h7, hf⟩ := nz_chk_t hf
        refine nz_iald (pc := 30) (c := p) E hp h7 dX8_goes_30 ?_
        refine nz_iload_n (pc := 31) (i := 2) E dX8_goes_31 rfl rfl ?_
        refine nz_icmp_ne (pc := 32) (tgt := 39) E dX8_goes_32 (by decide) (fun h8 => ?_) (fun h8 => ?_)
        · have hf := nz_ite_f hf h8
          refine nz_iconst (pc := 39) (v := 0) E dX8_goes_39 (by decide) ?_
          refine nz_istore_n (pc := 40) (i := 3) E dX8_goes_40 rfl (by decide) rfl ?_
          refine nz_iinc (pc := 41) (i := 4) (w := 1) E dX8_goes_41 rfl (by decide) (by decide) rfl ?_
          refine nz_goto (pc := 44) (tgt := 5) E dX8_goes_44 (by decide) ?_
          refine nz_weak (lv' := [(0, .ref (q p)), (1, .int _), (2, .int _), (3, .int _), (4, .int _)]) ⟨rfl, rfl, rfl, rfl, rfl, trivial⟩ ?_
          exact ih _ _ _ _ hf hK
        · have hf := nz_ite_t hf h8
          refine nz_iconst (pc := 35) (v := 1) E dX8_goes_35 (by decide) ?_
          refine nz_goto (pc := 36) (tgt := 40) E dX8_goes_36 (by decide) ?_
          refine nz_istore_n (pc := 40) (i := 3) E dX8_goes_40 rfl (by decide) rfl ?_
          refine nz_iinc (pc := 41) (i := 4) (w := 1) E dX8_goes_41 rfl (by decide) (by decide) rfl ?_
          refine nz_goto (pc := 44) (tgt := 5) E dX8_goes_44 (by decide) ?_
          refine nz_weak (lv' := [(0, .ref (q p)), (1, .int _), (2, .int _), (3, .int _), (4, .int _)]) ⟨rfl, rfl, rfl, rfl, rfl, trivial⟩ ?_
          exact ih _ _ _ _ hf hK
set_option maxHeartbeats 4000000 in
set_option maxRecDepth 20000 in
theorem k_X8_goes {l : Launch} {w : nz_O} {q : Nat → Nat} (p : Nat) (hp : nz_isP p) (a0 : Int32) (a1 : Int32) (x : nz_S) (o : Int32 × nz_S) (hf : f_X8_goes p a0 a1 x = some o) : nz_MI l yX8_goes (nz_T yX8_goes cX8_goes 5 (some .boolean)) (nz_R 0 0) w q nz_tM [.ref (q p), .int a0, .int a1] x o := by
  refine nz_enterI (by decide) rfl (Nat.le_of_ble_eq_true rfl) rfl rfl ?_
  intro κ E hw hlq hR
  subst hw; subst hlq
  unfold f_X8_goes at hf
  refine nz_weak (lv' := [(0, .ref (q p)), (1, .int a0), (2, .int a1)]) ⟨rfl, rfl, rfl, trivial⟩ ?_
  refine nz_iconst (pc := 0) (v := 0) E dX8_goes_0 (by decide) ?_
  refine nz_istore_n (pc := 1) (i := 3) E dX8_goes_1 rfl (by decide) rfl ?_
  refine nz_iconst (pc := 2) (v := 0) E dX8_goes_2 (by decide) ?_
  refine nz_istore (pc := 3) (i := 4) E dX8_goes_3 (by decide) rfl ?_
  refine nz_weak (lv' := [(0, .ref (q p)), (1, .int _), (2, .int _), (3, .int _), (4, .int _)]) ⟨rfl, rfl, rfl, rfl, rfl, trivial⟩ ?_
  refine w_X8_goes_5 p hp _ _ E hR _ _ _ _ _ hf (fun u12 u13 x11 hf => ?_)
  refine nz_iload_n (pc := 47) (i := 3) E dX8_goes_47 rfl rfl ?_
  obtain ⟨h14, hf⟩ := nz_chk_t hf
  exact nz_iret (pc := 48) E hR (nz_narZ h14) hf dX8_goes_48
def f_X8_comeTo (a0 : Int32) (a1 : Int32) (x : nz_S) : Option (Unit × nz_S) :=
  nz_chk (nz_in a0 12) <|
  let x2 : nz_S := nz_put x 11 (a0).toNatClampNeg (x.1 0 16)
  let x3 : nz_S := nz_put x2 0 16 ((x2.1 0 16) + (1 : Int32))
  nz_chk (nz_in a1 13) <|
  let x5 : nz_S := nz_put x3 13 (a1).toNatClampNeg a0
  nz_chk (nz_in a1 13) <|
  let x7 : nz_S := nz_put x5 14 (a1).toNatClampNeg (0 : Int32)
  some ((), x7)
theorem ds_X8_comeTo : nz_dsc yX8_comeTo 2 := by unfold nz_dsc; decide +kernel
set_option maxHeartbeats 4000000 in
set_option maxRecDepth 20000 in
theorem k_X8_comeTo {l : Launch} {w : nz_O} {q : Nat → Nat} (a0 : Int32) (a1 : Int32) (x : nz_S) (o : Unit × nz_S) (hf : f_X8_comeTo a0 a1 x = some o) : nz_MV l yX8_comeTo (nz_T yX8_comeTo cX8_comeTo 3 (none)) (nz_R 0 0) w q nz_tM [.ref (q 0), .int a0, .int a1] x o := by
  refine nz_enterV (by decide) rfl (Nat.le_of_ble_eq_true rfl) rfl rfl ?_
  intro κ E hw hlq hR
  subst hw; subst hlq
  unfold f_X8_comeTo at hf
  refine nz_weak (lv' := [(0, .ref (q 0)), (1, .int a0), (2, .int a1)]) ⟨rfl, rfl, rfl, trivial⟩ ?_
  refine nz_aload_n (pc := 0) (i := 0) E dX8_comeTo_0 rfl rfl ?_
  refine nz_getR (pc := 1) (c := 0) (kf := 17) E rfl rfl (nz_upT nz_uX8) (by decide) (List.mem_cons_of_mem _ nz_w693) rfl rfl dX8_comeTo_1 ?_
  refine nz_iload_n (pc := 4) (i := 1) E dX8_comeTo_4 rfl rfl ?_
  refine nz_aload_n (pc := 5) (i := 0) E dX8_comeTo_5 rfl rfl ?_
  refine nz_getI (pc := 6) (c := 0) (kf := 16) E rfl rfl (nz_upT nz_uX8) (by decide) (List.mem_cons_of_mem _ nz_w692) rfl rfl dX8_comeTo_6 ?_
  obtain ⟨h1, hf⟩ := nz_chk_t hf
  refine nz_iast (pc := 9) (c := 11) E rfl h1 dX8_comeTo_9 ?_
  refine nz_aload_n (pc := 10) (i := 0) E dX8_comeTo_10 rfl rfl ?_
  refine nz_dup (pc := 11) E dX8_comeTo_11 rfl ?_
  refine nz_getI (pc := 12) (c := 0) (kf := 16) E rfl rfl (nz_upT nz_uX8) (by decide) (List.mem_cons_of_mem _ nz_w692) rfl rfl dX8_comeTo_12 ?_
  refine nz_iconst (pc := 15) (v := 1) E dX8_comeTo_15 (by decide) ?_
  refine nz_iadd (pc := 16) E dX8_comeTo_16 ?_
  refine nz_putI (pc := 17) (c := 0) (kf := 16) E rfl rfl (nz_upT nz_uX8) (by decide) (List.mem_cons_of_mem _ nz_w692) rfl tyX8 tyX8_ok nmX8 rfl (tyX8_ok 16 (by decide)) rfl dX8_comeTo_17 ?_
  refine nz_aload_n (pc := 20) (i := 0) E dX8_comeTo_20 rfl rfl ?_
  refine nz_getR (pc := 21) (c := 0) (kf := 19) E rfl rfl (nz_upT nz_uX8) (by decide) (List.mem_cons_of_mem _ nz_w695) rfl rfl dX8_comeTo_21 ?_
  refine nz_iload_n (pc := 24) (i := 2) E dX8_comeTo_24 rfl rfl ?_
  refine nz_iload_n (pc := 25) (i := 1) E dX8_comeTo_25 rfl rfl ?_
  obtain ⟨h4, hf⟩ := nz_chk_t hf
  refine nz_iast (pc := 26) (c := 13) E rfl h4 dX8_comeTo_26 ?_
  refine nz_aload_n (pc := 27) (i := 0) E dX8_comeTo_27 rfl rfl ?_
  refine nz_getR (pc := 28) (c := 0) (kf := 20) E rfl rfl (nz_upT nz_uX8) (by decide) (List.mem_cons_of_mem _ nz_w696) rfl rfl dX8_comeTo_28 ?_
  refine nz_iload_n (pc := 31) (i := 2) E dX8_comeTo_31 rfl rfl ?_
  refine nz_iconst (pc := 32) (v := 0) E dX8_comeTo_32 (by decide) ?_
  obtain ⟨h6, hf⟩ := nz_chk_t hf
  refine nz_iast (pc := 33) (c := 14) E rfl h6 dX8_comeTo_33 ?_
  exact nz_vret (pc := 34) E hR hf dX8_comeTo_34
def f_X8_walk_7 (p : Nat) : Nat → Int32 → nz_S → (Int32 → nz_S → Option (Unit × nz_S)) → Option (Unit × nz_S)
  | 0, _, _, _ => none
  | fu + 1, w2, x, K =>
  if (12 : Int32) ≤ w2 then
    K w2 x
  else
    nz_chk (nz_in w2 12) <|
    let x4 : nz_S := nz_put x 11 (w2).toNatClampNeg (-9 : Int32)
    nz_chk (nz_in w2 12) <|
    let x6 : nz_S := nz_put x4 12 (w2).toNatClampNeg (-9 : Int32)
    let v7 : Int32 := w2 + 1
    f_X8_walk_7 p fu v7 x6 K
def f_X8_walk_51 (p : Nat) : Nat → Int32 → nz_S → (Int32 → nz_S → Option (Unit × nz_S)) → Option (Unit × nz_S)
  | 0, _, _, _ => none
  | fu + 1, w2, x, K =>
  if w2 < (0 : Int32) then
    K w2 x
  else
    nz_chk (nz_in w2 13) <|
    let v14 : Int32 := (x.1 13 (w2).toNatClampNeg)
    nz_chk (nz_in w2 13) <|
    let v16 : Int32 := ((13 : Int32) + v14)
    nz_chk (nz_in v16 61) <|
    if (x.1 14 (w2).toNatClampNeg) = (x.1 p (v16).toNatClampNeg) then
      nz_chk (nz_in v14 12) <|
      let x33 : nz_S := nz_put x 12 (v14).toNatClampNeg ((x.1 0 16) - (1 : Int32))
      let v34 : Int32 := w2 + (-1)
      f_X8_walk_51 p fu v34 x33 K
    else
      nz_chk (nz_in w2 13) <|
      let v20 : Int32 := (((25 : Int32) + ((3 : Int32) * v14)) + (x.1 14 (w2).toNatClampNeg))
      nz_chk (nz_in v20 61) <|
      let v22 : Int32 := (x.1 p (v20).toNatClampNeg)
      nz_chk (nz_in w2 13) <|
      nz_chk (nz_in w2 13) <|
      let x25 : nz_S := nz_put x 14 (w2).toNatClampNeg ((x.1 14 (w2).toNatClampNeg) + (1 : Int32))
      nz_chk (nz_in v22 12) <|
      if (x25.1 11 (v22).toNatClampNeg) = (-9 : Int32) then
        let v28 : Int32 := w2 + 1
        nz_bnd (f_X8_comeTo  v22 v28 x25) fun r29 x30 =>
        f_X8_walk_51 p fu v28 x30 K
      else
        f_X8_walk_51 p fu w2 x25 K
def f_X8_walk (p : Nat) (x : nz_S) : Option (Unit × nz_S) :=
  let x1 : nz_S := nz_put x 0 16 (0 : Int32)
  f_X8_walk_7 p nz_F (0 : Int32) x1 fun u9 x8 =>
    nz_chk (nz_in (0 : Int32) 61) <|
    if (x8.1 p ((0 : Int32)).toNatClampNeg) ≤ (0 : Int32) then
      f_X8_walk_51 p nz_F (-1 : Int32) x8 fun u36 x35 =>
        some ((), x35)
    else
      nz_bnd (f_X8_comeTo  (0 : Int32) (0 : Int32) x8) fun r37 x38 =>
      f_X8_walk_51 p nz_F (0 : Int32) x38 fun u41 x40 =>
        some ((), x40)
theorem ds_X8_walk : nz_dsc yX8_walk 1 := by unfold nz_dsc; decide +kernel
set_option maxHeartbeats 4000000 in
set_option maxRecDepth 20000 in
theorem w_X8_walk_7 {κ : nz_C} {q : Nat → Nat} {o : Unit × nz_S} (p : Nat) (hp : nz_isP p) (E : nz_Env κ q nz_tM 5 cX8_walk RX8 (nz_T yX8_walk cX8_walk 5 (none)) (nz_R 1 22)) (hR : nz_RV κ q nz_tM o) : ∀ (fu : Nat) (w2 : Int32) (x : nz_S) (K : Int32 → nz_S → Option (Unit × nz_S)), f_X8_walk_7 p fu w2 x K = some o → (∀ (w2 : Int32) (x : nz_S), K w2 x = some o → nz_St κ q nz_tM 5 35 [(0, .ref (q 0)), (1, .ref (q p)), (2, .int w2)] [] x) → nz_St κ q nz_tM 5 7 [(0, .ref (q 0)), (1, .ref (q p)), (2, .int w2)] [] x := by
  intro fu
  induction fu with
  | zero => intro w2 x K hf; rw [f_X8_walk_7] at hf; cases hf
  | succ fu ih =>
    intro w2 x K hf hK
    rw [f_X8_walk_7] at hf
    refine nz_iload_n (pc := 7) (i := 2) E dX8_walk_7 rfl rfl ?_
    refine nz_bipush (pc := 8) (v := 12) E dX8_walk_8 (by decide) ?_
    refine nz_icmp_ge (pc := 10) (tgt := 35) E dX8_walk_10 (by decide) (fun h2 => ?_) (fun h2 => ?_)
    · have hf := nz_ite_t hf h2
      refine nz_weak (lv' := [(0, .ref (q 0)), (1, .ref (q p)), (2, .int _)]) ⟨rfl, rfl, rfl, trivial⟩ ?_
      exact hK _ _ hf
    · have hf := nz_ite_f hf h2
      refine nz_aload_n (pc := 13) (i := 0) E dX8_walk_13 rfl rfl ?_
      refine nz_getR (pc := 14) (c := 0) (kf := 17) E rfl rfl (nz_upT nz_uX8) (by decide) (List.mem_cons_of_mem _ nz_w693) rfl rfl dX8_walk_14 ?_
      refine nz_iload_n (pc := 17) (i := 2) E dX8_walk_17 rfl rfl ?_
      refine nz_bipush (pc := 18) (v := -9) E dX8_walk_18 (by decide) ?_
      obtain ⟨h3, hf⟩ := nz_chk_t hf
      refine nz_iast (pc := 20) (c := 11) E rfl h3 dX8_walk_20 ?_
      refine nz_aload_n (pc := 21) (i := 0) E dX8_walk_21 rfl rfl ?_
      refine nz_getR (pc := 22) (c := 0) (kf := 18) E rfl rfl (nz_upT nz_uX8) (by decide) (List.mem_cons_of_mem _ nz_w694) rfl rfl dX8_walk_22 ?_
      refine nz_iload_n (pc := 25) (i := 2) E dX8_walk_25 rfl rfl ?_
      refine nz_bipush (pc := 26) (v := -9) E dX8_walk_26 (by decide) ?_
      obtain ⟨h5, hf⟩ := nz_chk_t hf
      refine nz_iast (pc := 28) (c := 12) E rfl h5 dX8_walk_28 ?_
      refine nz_iinc (pc := 29) (i := 2) (w := 1) E dX8_walk_29 rfl (by decide) (by decide) rfl ?_
      refine nz_goto (pc := 32) (tgt := 7) E dX8_walk_32 (by decide) ?_
      refine nz_weak (lv' := [(0, .ref (q 0)), (1, .ref (q p)), (2, .int _)]) ⟨rfl, rfl, rfl, trivial⟩ ?_
      exact ih _ _ _ hf hK
set_option maxHeartbeats 4000000 in
set_option maxRecDepth 20000 in
theorem w_X8_walk_51 {κ : nz_C} {q : Nat → Nat} {o : Unit × nz_S} (p : Nat) (hp : nz_isP p) (E : nz_Env κ q nz_tM 5 cX8_walk RX8 (nz_T yX8_walk cX8_walk 5 (none)) (nz_R 1 22)) (hR : nz_RV κ q nz_tM o) : ∀ (fu : Nat) (w2 : Int32) (x : nz_S) (K : Int32 → nz_S → Option (Unit × nz_S)), f_X8_walk_51 p fu w2 x K = some o → (∀ (w2 : Int32) (x : nz_S), K w2 x = some o → nz_St κ q nz_tM 5 147 [(0, .ref (q 0)), (1, .ref (q p)), (2, .int w2)] [] x) → nz_St κ q nz_tM 5 51 [(0, .ref (q 0)), (1, .ref (q p)), (2, .int w2)] [] x := by
  intro fu
  induction fu with
  | zero => intro w2 x K hf; rw [f_X8_walk_51] at hf; cases hf
  | succ fu ih =>
    intro w2 x K hf hK
    rw [f_X8_walk_51] at hf
    refine nz_iload_n (pc := 51) (i := 2) E dX8_walk_51 rfl rfl ?_
    refine nz_if_lt (pc := 52) (tgt := 147) E dX8_walk_52 (by decide) (fun h12 => ?_) (fun h12 => ?_)
    · have hf := nz_ite_t hf h12
      refine nz_weak (lv' := [(0, .ref (q 0)), (1, .ref (q p)), (2, .int _)]) ⟨rfl, rfl, rfl, trivial⟩ ?_
      exact hK _ _ hf
    · have hf := nz_ite_f hf h12
      refine nz_aload_n (pc := 55) (i := 0) E dX8_walk_55 rfl rfl ?_
      refine nz_getR (pc := 56) (c := 0) (kf := 19) E rfl rfl (nz_upT nz_uX8) (by decide) (List.mem_cons_of_mem _ nz_w695) rfl rfl dX8_walk_56 ?_
      refine nz_iload_n (pc := 59) (i := 2) E dX8_walk_59 rfl rfl ?_
      obtain ⟨h13, hf⟩ := nz_chk_t hf
      refine nz_iald (pc := 60) (c := 13) E rfl h13 dX8_walk_60 ?_
      refine nz_istore_n (pc := 61) (i := 3) E dX8_walk_61 rfl (by decide) rfl ?_
      refine nz_aload_n (pc := 62) (i := 0) E dX8_walk_62 rfl rfl ?_
      refine nz_getR (pc := 63) (c := 0) (kf := 20) E rfl rfl (nz_upT nz_uX8) (by decide) (List.mem_cons_of_mem _ nz_w696) rfl rfl dX8_walk_63 ?_
      refine nz_iload_n (pc := 66) (i := 2) E dX8_walk_66 rfl rfl ?_
      obtain ⟨h15, hf⟩ := nz_chk_t hf
      refine nz_iald (pc := 67) (c := 14) E rfl h15 dX8_walk_67 ?_
      refine nz_aload_n (pc := 68) (i := 1) E dX8_walk_68 rfl rfl ?_
      refine nz_bipush (pc := 69) (v := 13) E dX8_walk_69 (by decide) ?_
      refine nz_iload_n (pc := 71) (i := 3) E dX8_walk_71 rfl rfl ?_
      refine nz_iadd (pc := 72) E dX8_walk_72 ?_
      obtain ⟨h17, hf⟩ := nz_chk_t hf
      refine nz_iald (pc := 73) (c := p) E hp h17 dX8_walk_73 ?_
      refine nz_icmp_ne (pc := 74) (tgt := 95) E dX8_walk_74 (by decide) (fun h18 => ?_) (fun h18 => ?_)
      · have hf := nz_ite_f hf h18
        refine nz_aload_n (pc := 95) (i := 1) E dX8_walk_95 rfl rfl ?_
        refine nz_bipush (pc := 96) (v := 25) E dX8_walk_96 (by decide) ?_
        refine nz_iconst (pc := 98) (v := 3) E dX8_walk_98 (by decide) ?_
        refine nz_iload_n (pc := 99) (i := 3) E dX8_walk_99 rfl rfl ?_
        refine nz_imul (pc := 100) E dX8_walk_100 ?_
        refine nz_iadd (pc := 101) E dX8_walk_101 ?_
        refine nz_aload_n (pc := 102) (i := 0) E dX8_walk_102 rfl rfl ?_
        refine nz_getR (pc := 103) (c := 0) (kf := 20) E rfl rfl (nz_upT nz_uX8) (by decide) (List.mem_cons_of_mem _ nz_w696) rfl rfl dX8_walk_103 ?_
        refine nz_iload_n (pc := 106) (i := 2) E dX8_walk_106 rfl rfl ?_
        obtain ⟨h19, hf⟩ := nz_chk_t hf
        refine nz_iald (pc := 107) (c := 14) E rfl h19 dX8_walk_107 ?_
        refine nz_iadd (pc := 108) E dX8_walk_108 ?_
        obtain ⟨h21, hf⟩ := nz_chk_t hf
        refine nz_iald (pc := 109) (c := p) E hp h21 dX8_walk_109 ?_
        refine nz_istore (pc := 110) (i := 4) E dX8_walk_110 (by decide) rfl ?_
        refine nz_aload_n (pc := 112) (i := 0) E dX8_walk_112 rfl rfl ?_
        refine nz_getR (pc := 113) (c := 0) (kf := 20) E rfl rfl (nz_upT nz_uX8) (by decide) (List.mem_cons_of_mem _ nz_w696) rfl rfl dX8_walk_113 ?_
        refine nz_iload_n (pc := 116) (i := 2) E dX8_walk_116 rfl rfl ?_
        refine nz_dup2 (pc := 117) E dX8_walk_117 rfl rfl ?_
        obtain ⟨h23, hf⟩ := nz_chk_t hf
        refine nz_iald (pc := 118) (c := 14) E rfl h23 dX8_walk_118 ?_
        refine nz_iconst (pc := 119) (v := 1) E dX8_walk_119 (by decide) ?_
        refine nz_iadd (pc := 120) E dX8_walk_120 ?_
        obtain ⟨h24, hf⟩ := nz_chk_t hf
        refine nz_iast (pc := 121) (c := 14) E rfl h24 dX8_walk_121 ?_
        refine nz_aload_n (pc := 122) (i := 0) E dX8_walk_122 rfl rfl ?_
        refine nz_getR (pc := 123) (c := 0) (kf := 17) E rfl rfl (nz_upT nz_uX8) (by decide) (List.mem_cons_of_mem _ nz_w693) rfl rfl dX8_walk_123 ?_
        refine nz_iload (pc := 126) (i := 4) E dX8_walk_126 rfl ?_
        obtain ⟨h26, hf⟩ := nz_chk_t hf
        refine nz_iald (pc := 128) (c := 11) E rfl h26 dX8_walk_128 ?_
        refine nz_bipush (pc := 129) (v := -9) E dX8_walk_129 (by decide) ?_
        refine nz_icmp_ne (pc := 131) (tgt := 144) E dX8_walk_131 (by decide) (fun h27 => ?_) (fun h27 => ?_)
        · have hf := nz_ite_f hf h27
          refine nz_goto (pc := 144) (tgt := 51) E dX8_walk_144 (by decide) ?_
          refine nz_weak (lv' := [(0, .ref (q 0)), (1, .ref (q p)), (2, .int _)]) ⟨rfl, rfl, rfl, trivial⟩ ?_
          exact ih _ _ _ hf hK
        · have hf := nz_ite_t hf h27
          refine nz_iinc (pc := 134) (i := 2) (w := 1) E dX8_walk_134 rfl (by decide) (by decide) rfl ?_
          refine nz_aload_n (pc := 137) (i := 0) E dX8_walk_137 rfl rfl ?_
          refine nz_iload (pc := 138) (i := 4) E dX8_walk_138 rfl ?_
          refine nz_iload_n (pc := 140) (i := 2) E dX8_walk_140 rfl rfl ?_
          obtain ⟨r29, x30, h31, hf⟩ := nz_bnd_t hf
          refine nz_callVV (pc := 141) (c0 := 0) (As := [.int _, .int _]) E rfl rfl (k_X8_comeTo   _ _ _ _ h31) (nz_cwV E nz_w808 nz_w810 nz_w26 nz_w67 nz_w811 ds_X8_comeTo ⟨Nat.le_of_ble_eq_true rfl, Nat.le_of_ble_eq_true rfl⟩ rfl rfl) rfl rfl (Nat.le_of_ble_eq_true rfl) dX8_walk_141 ?_
          refine nz_goto (pc := 144) (tgt := 51) E dX8_walk_144 (by decide) ?_
          refine nz_weak (lv' := [(0, .ref (q 0)), (1, .ref (q p)), (2, .int _)]) ⟨rfl, rfl, rfl, trivial⟩ ?_
          exact ih _ _ _ hf hK
      · have hf := nz_ite_t hf h18
        refine nz_aload_n (pc := 77) (i := 0) E dX8_walk_77 rfl rfl ?_
        refine nz_getR (pc := 78) (c := 0) (kf := 18) E rfl rfl (nz_upT nz_uX8) (by decide) (List.mem_cons_of_mem _ nz_w694) rfl rfl dX8_walk_78 ?_
        refine nz_iload_n (pc := 81) (i := 3) E dX8_walk_81 rfl rfl ?_
        refine nz_aload_n (pc := 82) (i := 0) E dX8_walk_82 rfl rfl ?_
        refine nz_getI (pc := 83) (c := 0) (kf := 16) E rfl rfl (nz_upT nz_uX8) (by decide) (List.mem_cons_of_mem _ nz_w692) rfl rfl dX8_walk_83 ?_
        refine nz_iconst (pc := 86) (v := 1) E dX8_walk_86 (by decide) ?_
        refine nz_isub (pc := 87) E dX8_walk_87 ?_
        obtain ⟨h32, hf⟩ := nz_chk_t hf
        refine nz_iast (pc := 88) (c := 12) E rfl h32 dX8_walk_88 ?_
        refine nz_iinc (pc := 89) (i := 2) (w := -1) E dX8_walk_89 rfl (by decide) (by decide) rfl ?_
        refine nz_goto (pc := 92) (tgt := 144) E dX8_walk_92 (by decide) ?_
        refine nz_goto (pc := 144) (tgt := 51) E dX8_walk_144 (by decide) ?_
        refine nz_weak (lv' := [(0, .ref (q 0)), (1, .ref (q p)), (2, .int _)]) ⟨rfl, rfl, rfl, trivial⟩ ?_
        exact ih _ _ _ hf hK
set_option maxHeartbeats 4000000 in
set_option maxRecDepth 20000 in
theorem k_X8_walk {l : Launch} {w : nz_O} {q : Nat → Nat} (p : Nat) (hp : nz_isP p) (x : nz_S) (o : Unit × nz_S) (hf : f_X8_walk p x = some o) : nz_MV l yX8_walk (nz_T yX8_walk cX8_walk 5 (none)) (nz_R 1 22) w q nz_tM [.ref (q 0), .ref (q p)] x o := by
  refine nz_enterV (by decide) rfl (Nat.le_of_ble_eq_true rfl) rfl rfl ?_
  intro κ E hw hlq hR
  subst hw; subst hlq
  unfold f_X8_walk at hf
  refine nz_weak (lv' := [(0, .ref (q 0)), (1, .ref (q p))]) ⟨rfl, rfl, trivial⟩ ?_
  refine nz_aload_n (pc := 0) (i := 0) E dX8_walk_0 rfl rfl ?_
  refine nz_iconst (pc := 1) (v := 0) E dX8_walk_1 (by decide) ?_
  refine nz_putI (pc := 2) (c := 0) (kf := 16) E rfl rfl (nz_upT nz_uX8) (by decide) (List.mem_cons_of_mem _ nz_w692) rfl tyX8 tyX8_ok nmX8 rfl (tyX8_ok 16 (by decide)) rfl dX8_walk_2 ?_
  refine nz_iconst (pc := 5) (v := 0) E dX8_walk_5 (by decide) ?_
  refine nz_istore_n (pc := 6) (i := 2) E dX8_walk_6 rfl (by decide) rfl ?_
  refine nz_weak (lv' := [(0, .ref (q 0)), (1, .ref (q p)), (2, .int _)]) ⟨rfl, rfl, rfl, trivial⟩ ?_
  refine w_X8_walk_7 p hp E hR _ _ _ _ hf (fun u9 x8 hf => ?_)
  refine nz_iconst (pc := 35) (v := -1) E dX8_walk_35 (by decide) ?_
  refine nz_istore_n (pc := 36) (i := 2) E dX8_walk_36 rfl (by decide) rfl ?_
  refine nz_aload_n (pc := 37) (i := 1) E dX8_walk_37 rfl rfl ?_
  refine nz_iconst (pc := 38) (v := 0) E dX8_walk_38 (by decide) ?_
  obtain ⟨h10, hf⟩ := nz_chk_t hf
  refine nz_iald (pc := 39) (c := p) E hp h10 dX8_walk_39 ?_
  refine nz_if_le (pc := 40) (tgt := 51) E dX8_walk_40 (by decide) (fun h11 => ?_) (fun h11 => ?_)
  · have hf := nz_ite_t hf h11
    refine nz_weak (lv' := [(0, .ref (q 0)), (1, .ref (q p)), (2, .int _)]) ⟨rfl, rfl, rfl, trivial⟩ ?_
    refine w_X8_walk_51 p hp E hR _ _ _ _ hf (fun u36 x35 hf => ?_)
    exact nz_vret (pc := 147) E hR hf dX8_walk_147
  · have hf := nz_ite_f hf h11
    refine nz_aload_n (pc := 43) (i := 0) E dX8_walk_43 rfl rfl ?_
    refine nz_iconst (pc := 44) (v := 0) E dX8_walk_44 (by decide) ?_
    refine nz_iconst (pc := 45) (v := 0) E dX8_walk_45 (by decide) ?_
    obtain ⟨r37, x38, h39, hf⟩ := nz_bnd_t hf
    refine nz_callVV (pc := 46) (c0 := 0) (As := [.int _, .int _]) E rfl rfl (k_X8_comeTo   _ _ _ _ h39) (nz_cwV E nz_w808 nz_w810 nz_w26 nz_w67 nz_w811 ds_X8_comeTo ⟨Nat.le_of_ble_eq_true rfl, Nat.le_of_ble_eq_true rfl⟩ rfl rfl) rfl rfl (Nat.le_of_ble_eq_true rfl) dX8_walk_46 ?_
    refine nz_iconst (pc := 49) (v := 0) E dX8_walk_49 (by decide) ?_
    refine nz_istore_n (pc := 50) (i := 2) E dX8_walk_50 rfl (by decide) rfl ?_
    refine nz_weak (lv' := [(0, .ref (q 0)), (1, .ref (q p)), (2, .int _)]) ⟨rfl, rfl, rfl, trivial⟩ ?_
    refine w_X8_walk_51 p hp E hR _ _ _ _ hf (fun u41 x40 hf => ?_)
    exact nz_vret (pc := 147) E hR hf dX8_walk_147
def f_X8_isAbove (a0 : Int32) (a1 : Int32) (x : nz_S) : Option (Int32 × nz_S) :=
  nz_chk (nz_in a0 12) <|
  if (x.1 11 (a0).toNatClampNeg) = (-9 : Int32) then
    some ((0 : Int32), x)
  else
    nz_chk (nz_in a1 12) <|
    if (x.1 11 (a1).toNatClampNeg) = (-9 : Int32) then
      some ((0 : Int32), x)
    else
      nz_chk (nz_in a1 12) <|
      nz_chk (nz_in a0 12) <|
      nz_chk (nz_in a0 12) <|
      nz_bnd (f_X8_in  ((x.1 11 (a1).toNatClampNeg)).toInt64 ((x.1 11 (a0).toNatClampNeg)).toInt64 ((x.1 12 (a0).toNatClampNeg)).toInt64 x) fun r8 x9 =>
      if r8 = (0 : Int32) then
        some ((0 : Int32), x9)
      else
        some ((1 : Int32), x9)
theorem ds_X8_isAbove : nz_dsc yX8_isAbove 2 := by unfold nz_dsc; decide +kernel
set_option maxHeartbeats 4000000 in
set_option maxRecDepth 20000 in
theorem k_X8_isAbove {l : Launch} {w : nz_O} {q : Nat → Nat} (a0 : Int32) (a1 : Int32) (x : nz_S) (o : Int32 × nz_S) (hf : f_X8_isAbove a0 a1 x = some o) : nz_MI l yX8_isAbove (nz_T yX8_isAbove cX8_isAbove 3 (some .boolean)) (nz_R 1 25) w q nz_tM [.ref (q 0), .int a0, .int a1] x o := by
  refine nz_enterI (by decide) rfl (Nat.le_of_ble_eq_true rfl) rfl rfl ?_
  intro κ E hw hlq hR
  subst hw; subst hlq
  unfold f_X8_isAbove at hf
  refine nz_weak (lv' := [(0, .ref (q 0)), (1, .int a0), (2, .int a1)]) ⟨rfl, rfl, rfl, trivial⟩ ?_
  refine nz_aload_n (pc := 0) (i := 0) E dX8_isAbove_0 rfl rfl ?_
  refine nz_getR (pc := 1) (c := 0) (kf := 17) E rfl rfl (nz_upT nz_uX8) (by decide) (List.mem_cons_of_mem _ nz_w693) rfl rfl dX8_isAbove_1 ?_
  refine nz_iload_n (pc := 4) (i := 1) E dX8_isAbove_4 rfl rfl ?_
  obtain ⟨h1, hf⟩ := nz_chk_t hf
  refine nz_iald (pc := 5) (c := 11) E rfl h1 dX8_isAbove_5 ?_
  refine nz_bipush (pc := 6) (v := -9) E dX8_isAbove_6 (by decide) ?_
  refine nz_icmp_eq (pc := 8) (tgt := 53) E dX8_isAbove_8 (by decide) (fun h2 => ?_) (fun h2 => ?_)
  · have hf := nz_ite_t hf h2
    refine nz_iconst (pc := 53) (v := 0) E dX8_isAbove_53 (by decide) ?_
    exact nz_iret (pc := 54) E hR rfl hf dX8_isAbove_54
  · have hf := nz_ite_f hf h2
    refine nz_aload_n (pc := 11) (i := 0) E dX8_isAbove_11 rfl rfl ?_
    refine nz_getR (pc := 12) (c := 0) (kf := 17) E rfl rfl (nz_upT nz_uX8) (by decide) (List.mem_cons_of_mem _ nz_w693) rfl rfl dX8_isAbove_12 ?_
    refine nz_iload_n (pc := 15) (i := 2) E dX8_isAbove_15 rfl rfl ?_
    obtain ⟨h3, hf⟩ := nz_chk_t hf
    refine nz_iald (pc := 16) (c := 11) E rfl h3 dX8_isAbove_16 ?_
    refine nz_bipush (pc := 17) (v := -9) E dX8_isAbove_17 (by decide) ?_
    refine nz_icmp_eq (pc := 19) (tgt := 53) E dX8_isAbove_19 (by decide) (fun h4 => ?_) (fun h4 => ?_)
    · have hf := nz_ite_t hf h4
      refine nz_iconst (pc := 53) (v := 0) E dX8_isAbove_53 (by decide) ?_
      exact nz_iret (pc := 54) E hR rfl hf dX8_isAbove_54
    · have hf := nz_ite_f hf h4
      refine nz_aload_n (pc := 22) (i := 0) E dX8_isAbove_22 rfl rfl ?_
      refine nz_getR (pc := 23) (c := 0) (kf := 17) E rfl rfl (nz_upT nz_uX8) (by decide) (List.mem_cons_of_mem _ nz_w693) rfl rfl dX8_isAbove_23 ?_
      refine nz_iload_n (pc := 26) (i := 2) E dX8_isAbove_26 rfl rfl ?_
      obtain ⟨h5, hf⟩ := nz_chk_t hf
      refine nz_iald (pc := 27) (c := 11) E rfl h5 dX8_isAbove_27 ?_
      refine nz_i2l (pc := 28) E dX8_isAbove_28 ?_
      refine nz_aload_n (pc := 29) (i := 0) E dX8_isAbove_29 rfl rfl ?_
      refine nz_getR (pc := 30) (c := 0) (kf := 17) E rfl rfl (nz_upT nz_uX8) (by decide) (List.mem_cons_of_mem _ nz_w693) rfl rfl dX8_isAbove_30 ?_
      refine nz_iload_n (pc := 33) (i := 1) E dX8_isAbove_33 rfl rfl ?_
      obtain ⟨h6, hf⟩ := nz_chk_t hf
      refine nz_iald (pc := 34) (c := 11) E rfl h6 dX8_isAbove_34 ?_
      refine nz_i2l (pc := 35) E dX8_isAbove_35 ?_
      refine nz_aload_n (pc := 36) (i := 0) E dX8_isAbove_36 rfl rfl ?_
      refine nz_getR (pc := 37) (c := 0) (kf := 18) E rfl rfl (nz_upT nz_uX8) (by decide) (List.mem_cons_of_mem _ nz_w694) rfl rfl dX8_isAbove_37 ?_
      refine nz_iload_n (pc := 40) (i := 1) E dX8_isAbove_40 rfl rfl ?_
      obtain ⟨h7, hf⟩ := nz_chk_t hf
      refine nz_iald (pc := 41) (c := 12) E rfl h7 dX8_isAbove_41 ?_
      refine nz_i2l (pc := 42) E dX8_isAbove_42 ?_
      obtain ⟨r8, x9, h10, hf⟩ := nz_bnd_t hf
      refine nz_callSI (pc := 43) (As := [.long _, .long _, .long _]) E (k_X8_in   _ _ _ _ _ h10) (nz_cwS E nz_w766 nz_w767 nz_w67 nz_w768 ds_X8_in ⟨Nat.le_of_ble_eq_true rfl, Nat.le_of_ble_eq_true rfl⟩ rfl rfl) rfl rfl (Nat.le_of_ble_eq_true rfl) dX8_isAbove_43 ?_
      refine nz_if_eq (pc := 46) (tgt := 53) E dX8_isAbove_46 (by decide) (fun h11 => ?_) (fun h11 => ?_)
      · have hf := nz_ite_t hf h11
        refine nz_iconst (pc := 53) (v := 0) E dX8_isAbove_53 (by decide) ?_
        exact nz_iret (pc := 54) E hR rfl hf dX8_isAbove_54
      · have hf := nz_ite_f hf h11
        refine nz_iconst (pc := 49) (v := 1) E dX8_isAbove_49 (by decide) ?_
        refine nz_goto (pc := 50) (tgt := 54) E dX8_isAbove_50 (by decide) ?_
        exact nz_iret (pc := 54) E hR rfl hf dX8_isAbove_54
