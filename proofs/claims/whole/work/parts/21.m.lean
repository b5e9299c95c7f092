def f_X8_leader_2 : Nat → Int32 → nz_S → (Int32 → nz_S → Option (Int32 × nz_S)) → Option (Int32 × nz_S)
  | 0, _, _, _ => none
  | fu + 1, w2, x, K =>
  nz_chk (nz_in w2 12) <|
  if (x.1 15 (w2).toNatClampNeg) = (-9 : Int32) then
    K w2 x
  else
    nz_chk (nz_in w2 12) <|
    let v4 : Int32 := (x.1 15 (w2).toNatClampNeg)
    f_X8_leader_2 fu v4 x K
def f_X8_leader (a0 : Int32) (x : nz_S) : Option (Int32 × nz_S) :=
  f_X8_leader_2 nz_F a0 x fun u6 x5 =>
    some (u6, x5)
theorem ds_X8_leader : nz_dsc yX8_leader 1 := by unfold nz_dsc; decide +kernel
set_option maxHeartbeats 4000000 in
set_option maxRecDepth 20000 in
theorem w_X8_leader_2 {κ : nz_C} {q : Nat → Nat} {o : Int32 × nz_S} (E : nz_Env κ q nz_tM 3 cX8_leader RX8 (nz_T yX8_leader cX8_leader 3 (some .int)) (nz_R 0 0)) (hR : nz_RI κ q nz_tM .int o) : ∀ (fu : Nat) (w2 : Int32) (x : nz_S) (K : Int32 → nz_S → Option (Int32 × nz_S)), f_X8_leader_2 fu w2 x K = some o → (∀ (w2 : Int32) (x : nz_S), K w2 x = some o → nz_St κ q nz_tM 3 23 [(0, .ref (q 0)), (2, .int w2)] [] x) → nz_St κ q nz_tM 3 2 [(0, .ref (q 0)), (2, .int w2)] [] x := by
  intro fu
  induction fu with
  | zero => intro w2 x K hf; rw [f_X8_leader_2] at hf; cases hf
  | succ fu ih =>
    intro w2 x K hf hK
    rw [f_X8_leader_2] at hf
    refine nz_aload_n (pc := 2) (i := 0) E dX8_leader_2 rfl rfl ?_
    refine nz_getR (pc := 3) (c := 0) (kf := 21) E rfl rfl (nz_upT nz_uX8) (by decide) (List.mem_cons_of_mem _ nz_w697) rfl rfl dX8_leader_3 ?_
    refine nz_iload_n (pc := 6) (i := 2) E dX8_leader_6 rfl rfl ?_
    obtain ⟨h1, hf⟩ := nz_chk_t hf
    refine nz_iald (pc := 7) (c := 15) E rfl h1 dX8_leader_7 ?_
    refine nz_bipush (pc := 8) (v := -9) E dX8_leader_8 (by decide) ?_
    refine nz_icmp_eq (pc := 10) (tgt := 23) E dX8_leader_10 (by decide) (fun h2 => ?_) (fun h2 => ?_)
    · have hf := nz_ite_t hf h2
      refine nz_weak (lv' := [(0, .ref (q 0)), (2, .int _)]) ⟨rfl, rfl, trivial⟩ ?_
      exact hK _ _ hf
    · have hf := nz_ite_f hf h2
      refine nz_aload_n (pc := 13) (i := 0) E dX8_leader_13 rfl rfl ?_
      refine nz_getR (pc := 14) (c := 0) (kf := 21) E rfl rfl (nz_upT nz_uX8) (by decide) (List.mem_cons_of_mem _ nz_w697) rfl rfl dX8_leader_14 ?_
      refine nz_iload_n (pc := 17) (i := 2) E dX8_leader_17 rfl rfl ?_
      obtain ⟨h3, hf⟩ := nz_chk_t hf
      refine nz_iald (pc := 18) (c := 15) E rfl h3 dX8_leader_18 ?_
      refine nz_istore_n (pc := 19) (i := 2) E dX8_leader_19 rfl (by decide) rfl ?_
      refine nz_goto (pc := 20) (tgt := 2) E dX8_leader_20 (by decide) ?_
      refine nz_weak (lv' := [(0, .ref (q 0)), (2, .int _)]) ⟨rfl, rfl, trivial⟩ ?_
      exact ih _ _ _ hf hK
set_option maxHeartbeats 4000000 in
set_option maxRecDepth 20000 in
theorem k_X8_leader {l : Launch} {w : nz_O} {q : Nat → Nat} (a0 : Int32) (x : nz_S) (o : Int32 × nz_S) (hf : f_X8_leader a0 x = some o) : nz_MI l yX8_leader (nz_T yX8_leader cX8_leader 3 (some .int)) (nz_R 0 0) w q nz_tM [.ref (q 0), .int a0] x o := by
  refine nz_enterI (by decide) rfl (Nat.le_of_ble_eq_true rfl) rfl rfl ?_
  intro κ E hw hlq hR
  subst hw; subst hlq
  unfold f_X8_leader at hf
  refine nz_weak (lv' := [(0, .ref (q 0)), (1, .int a0)]) ⟨rfl, rfl, trivial⟩ ?_
  refine nz_iload_n (pc := 0) (i := 1) E dX8_leader_0 rfl rfl ?_
  refine nz_istore_n (pc := 1) (i := 2) E dX8_leader_1 rfl (by decide) rfl ?_
  refine nz_weak (lv' := [(0, .ref (q 0)), (2, .int _)]) ⟨rfl, rfl, trivial⟩ ?_
  refine w_X8_leader_2 E hR _ _ _ _ hf (fun u6 x5 hf => ?_)
  refine nz_iload_n (pc := 23) (i := 2) E dX8_leader_23 rfl rfl ?_
  exact nz_iret (pc := 24) E hR rfl hf dX8_leader_24
def f_X8_layEntries_32 (p : Nat) (c2 : Int32) : Nat → Int32 → nz_S → (Int32 → nz_S → Option (Unit × nz_S)) → Option (Unit × nz_S)
  | 0, _, _, _ => none
  | fu + 1, w3, x, K =>
  nz_chk (nz_in (0 : Int32) 61) <|
  if (x.1 p ((0 : Int32)).toNatClampNeg) ≤ w3 then
    K w3 x
  else
    nz_chk (nz_in c2 12) <|
    nz_chk (nz_in w3 12) <|
    if (x.1 11 (w3).toNatClampNeg) = (-9 : Int32) then
      nz_chk (nz_in c2 12) <|
      let x14 : nz_S := nz_put x 17 (c2).toNatClampNeg ((x.1 17 (c2).toNatClampNeg) ||| (0 : Int32))
      let v15 : Int32 := w3 + 1
      f_X8_layEntries_32 p c2 fu v15 x14 K
    else
      nz_bnd (f_X8_goes p w3 c2 x) fun r16 x17 =>
      if r16 = (0 : Int32) then
        nz_chk (nz_in c2 12) <|
        let x21 : nz_S := nz_put x17 17 (c2).toNatClampNeg ((x.1 17 (c2).toNatClampNeg) ||| (0 : Int32))
        let v22 : Int32 := w3 + 1
        f_X8_layEntries_32 p c2 fu v22 x21 K
      else
        nz_bnd (f_X8_isAbove  c2 w3 x17) fun r23 x24 =>
        if r23 = (0 : Int32) then
          nz_chk (nz_in c2 12) <|
          let x31 : nz_S := nz_put x24 17 (c2).toNatClampNeg ((x.1 17 (c2).toNatClampNeg) ||| ((1 : Int32) <<< (w3 &&& 31)))
          let v32 : Int32 := w3 + 1
          f_X8_layEntries_32 p c2 fu v32 x31 K
        else
          nz_chk (nz_in c2 12) <|
          let x28 : nz_S := nz_put x24 17 (c2).toNatClampNeg ((x.1 17 (c2).toNatClampNeg) ||| (0 : Int32))
          let v29 : Int32 := w3 + 1
          f_X8_layEntries_32 p c2 fu v29 x28 K
def f_X8_layEntries_2 (p : Nat) : Nat → Int32 → nz_S → (Int32 → nz_S → Option (Unit × nz_S)) → Option (Unit × nz_S)
  | 0, _, _, _ => none
  | fu + 1, w2, x, K =>
  if (12 : Int32) ≤ w2 then
    K w2 x
  else
    nz_chk (nz_in w2 12) <|
    let x3 : nz_S := nz_put x 17 (w2).toNatClampNeg (0 : Int32)
    nz_chk (nz_in w2 12) <|
    let x5 : nz_S := nz_put x3 15 (w2).toNatClampNeg (-9 : Int32)
    nz_chk (nz_in w2 12) <|
    let x7 : nz_S := nz_put x5 16 (w2).toNatClampNeg (0 : Int32)
    f_X8_layEntries_32 p w2 nz_F (0 : Int32) x7 fun u34 x33 =>
      let v35 : Int32 := w2 + 1
      f_X8_layEntries_2 p fu v35 x33 K
def f_X8_layEntries (p : Nat) (x : nz_S) : Option (Unit × nz_S) :=
  f_X8_layEntries_2 p nz_F (0 : Int32) x fun u37 x36 =>
    some ((), x36)
theorem ds_X8_layEntries : nz_dsc yX8_layEntries 1 := by unfold nz_dsc; decide +kernel
set_option maxHeartbeats 4000000 in
set_option maxRecDepth 20000 in
theorem w_X8_layEntries_32 {κ : nz_C} {q : Nat → Nat} {o : Unit × nz_S} (p : Nat) (hp : nz_isP p) (c2 : Int32) (E : nz_Env κ q nz_tM 4 cX8_layEntries RX8 (nz_T yX8_layEntries cX8_layEntries 4 (none)) (nz_R 2 47)) (hR : nz_RV κ q nz_tM o) : ∀ (fu : Nat) (w3 : Int32) (x : nz_S) (K : Int32 → nz_S → Option (Unit × nz_S)), f_X8_layEntries_32 p c2 fu w3 x K = some o → (∀ (w3 : Int32) (x : nz_S), K w3 x = some o → nz_St κ q nz_tM 4 90 [(0, .ref (q 0)), (1, .ref (q p)), (2, .int c2), (3, .int w3)] [] x) → nz_St κ q nz_tM 4 32 [(0, .ref (q 0)), (1, .ref (q p)), (2, .int c2), (3, .int w3)] [] x := by
  intro fu
  induction fu with
  | zero => intro w3 x K hf; rw [f_X8_layEntries_32] at hf; cases hf
  | succ fu ih =>
    intro w3 x K hf hK
    rw [f_X8_layEntries_32] at hf
    refine nz_iload_n (pc := 32) (i := 3) E dX8_layEntries_32 rfl rfl ?_
    refine nz_aload_n (pc := 33) (i := 1) E dX8_layEntries_33 rfl rfl ?_
    refine nz_iconst (pc := 34) (v := 0) E dX8_layEntries_34 (by decide) ?_
    obtain ⟨h8, hf⟩ := nz_chk_t hf
    refine nz_iald (pc := 35) (c := p) E hp h8 dX8_layEntries_35 ?_
    refine nz_icmp_ge (pc := 36) (tgt := 90) E dX8_layEntries_36 (by decide) (fun h9 => ?_) (fun h9 => ?_)
    · have hf := nz_ite_t hf h9
      refine nz_weak (lv' := [(0, .ref (q 0)), (1, .ref (q p)), (2, .int _), (3, .int _)]) ⟨rfl, rfl, rfl, rfl, trivial⟩ ?_
      exact hK _ _ hf
    · have hf := nz_ite_f hf h9
      refine nz_aload_n (pc := 39) (i := 0) E dX8_layEntries_39 rfl rfl ?_
      refine nz_getR (pc := 40) (c := 0) (kf := 23) E rfl rfl (nz_upT nz_uX8) (by decide) (List.mem_cons_of_mem _ nz_w699) rfl rfl dX8_layEntries_40 ?_
      refine nz_iload_n (pc := 43) (i := 2) E dX8_layEntries_43 rfl rfl ?_
      refine nz_dup2 (pc := 44) E dX8_layEntries_44 rfl rfl ?_
      obtain ⟨h10, hf⟩ := nz_chk_t hf
      refine nz_iald (pc := 45) (c := 17) E rfl h10 dX8_layEntries_45 ?_
      refine nz_aload_n (pc := 46) (i := 0) E dX8_layEntries_46 rfl rfl ?_
      refine nz_getR (pc := 47) (c := 0) (kf := 17) E rfl rfl (nz_upT nz_uX8) (by decide) (List.mem_cons_of_mem _ nz_w693) rfl rfl dX8_layEntries_47 ?_
      refine nz_iload_n (pc := 50) (i := 3) E dX8_layEntries_50 rfl rfl ?_
      obtain ⟨h11, hf⟩ := nz_chk_t hf
      refine nz_iald (pc := 51) (c := 11) E rfl h11 dX8_layEntries_51 ?_
      refine nz_bipush (pc := 52) (v := -9) E dX8_layEntries_52 (by decide) ?_
      refine nz_icmp_eq (pc := 54) (tgt := 81) E dX8_layEntries_54 (by decide) (fun h12 => ?_) (fun h12 => ?_)
      · have hf := nz_ite_t hf h12
        refine nz_iconst (pc := 81) (v := 0) E dX8_layEntries_81 (by decide) ?_
        refine nz_ior (pc := 82) E dX8_layEntries_82 ?_
        obtain ⟨h13, hf⟩ := nz_chk_t hf
        refine nz_iast (pc := 83) (c := 17) E rfl h13 dX8_layEntries_83 ?_
        refine nz_iinc (pc := 84) (i := 3) (w := 1) E dX8_layEntries_84 rfl (by decide) (by decide) rfl ?_
        refine nz_goto (pc := 87) (tgt := 32) E dX8_layEntries_87 (by decide) ?_
        refine nz_weak (lv' := [(0, .ref (q 0)), (1, .ref (q p)), (2, .int _), (3, .int _)]) ⟨rfl, rfl, rfl, rfl, trivial⟩ ?_
        exact ih _ _ _ hf hK
      · have hf := nz_ite_f hf h12
        refine nz_aload_n (pc := 57) (i := 1) E dX8_layEntries_57 rfl rfl ?_
        refine nz_iload_n (pc := 58) (i := 3) E dX8_layEntries_58 rfl rfl ?_
        refine nz_iload_n (pc := 59) (i := 2) E dX8_layEntries_59 rfl rfl ?_
        obtain ⟨r16, x17, h18, hf⟩ := nz_bnd_t hf
        refine nz_callSI (pc := 60) (As := [.ref (q p), .int _, .int _]) E (k_X8_goes p hp _ _ _ _ h18) (nz_cwS E nz_w816 nz_w817 nz_w67 nz_w818 ds_X8_goes ⟨Nat.le_of_ble_eq_true rfl, Nat.le_of_ble_eq_true rfl⟩ rfl rfl) rfl rfl (Nat.le_of_ble_eq_true rfl) dX8_layEntries_60 ?_
        refine nz_if_eq (pc := 63) (tgt := 81) E dX8_layEntries_63 (by decide) (fun h19 => ?_) (fun h19 => ?_)
        · have hf := nz_ite_t hf h19
          refine nz_iconst (pc := 81) (v := 0) E dX8_layEntries_81 (by decide) ?_
          refine nz_ior (pc := 82) E dX8_layEntries_82 ?_
          obtain ⟨h20, hf⟩ := nz_chk_t hf
          refine nz_iast (pc := 83) (c := 17) E rfl h20 dX8_layEntries_83 ?_
          refine nz_iinc (pc := 84) (i := 3) (w := 1) E dX8_layEntries_84 rfl (by decide) (by decide) rfl ?_
          refine nz_goto (pc := 87) (tgt := 32) E dX8_layEntries_87 (by decide) ?_
          refine nz_weak (lv' := [(0, .ref (q 0)), (1, .ref (q p)), (2, .int _), (3, .int _)]) ⟨rfl, rfl, rfl, rfl, trivial⟩ ?_
          exact ih _ _ _ hf hK
        · have hf := nz_ite_f hf h19
          refine nz_aload_n (pc := 66) (i := 0) E dX8_layEntries_66 rfl rfl ?_
          refine nz_iload_n (pc := 67) (i := 2) E dX8_layEntries_67 rfl rfl ?_
          refine nz_iload_n (pc := 68) (i := 3) E dX8_layEntries_68 rfl rfl ?_
          obtain ⟨r23, x24, h25, hf⟩ := nz_bnd_t hf
          refine nz_callVI (pc := 69) (c0 := 0) (As := [.int _, .int _]) E rfl rfl (k_X8_isAbove   _ _ _ _ h25) (nz_cwV E nz_w819 nz_w821 nz_w28 nz_w67 nz_w822 ds_X8_isAbove ⟨Nat.le_of_ble_eq_true rfl, Nat.le_of_ble_eq_true rfl⟩ rfl rfl) rfl rfl (Nat.le_of_ble_eq_true rfl) dX8_layEntries_69 ?_
          refine nz_if_ne (pc := 72) (tgt := 81) E dX8_layEntries_72 (by decide) (fun h26 => ?_) (fun h26 => ?_)
          · have hf := nz_ite_f hf h26
            refine nz_iconst (pc := 81) (v := 0) E dX8_layEntries_81 (by decide) ?_
            refine nz_ior (pc := 82) E dX8_layEntries_82 ?_
            obtain ⟨h27, hf⟩ := nz_chk_t hf
            refine nz_iast (pc := 83) (c := 17) E rfl h27 dX8_layEntries_83 ?_
            refine nz_iinc (pc := 84) (i := 3) (w := 1) E dX8_layEntries_84 rfl (by decide) (by decide) rfl ?_
            refine nz_goto (pc := 87) (tgt := 32) E dX8_layEntries_87 (by decide) ?_
            refine nz_weak (lv' := [(0, .ref (q 0)), (1, .ref (q p)), (2, .int _), (3, .int _)]) ⟨rfl, rfl, rfl, rfl, trivial⟩ ?_
            exact ih _ _ _ hf hK
          · have hf := nz_ite_t hf h26
            refine nz_iconst (pc := 75) (v := 1) E dX8_layEntries_75 (by decide) ?_
            refine nz_iload_n (pc := 76) (i := 3) E dX8_layEntries_76 rfl rfl ?_
            refine nz_ishl (pc := 77) E dX8_layEntries_77 ?_
            refine nz_goto (pc := 78) (tgt := 82) E dX8_layEntries_78 (by decide) ?_
            refine nz_ior (pc := 82) E dX8_layEntries_82 ?_
            obtain ⟨h30, hf⟩ := nz_chk_t hf
            refine nz_iast (pc := 83) (c := 17) E rfl h30 dX8_layEntries_83 ?_
            refine nz_iinc (pc := 84) (i := 3) (w := 1) E dX8_layEntries_84 rfl (by decide) (by decide) rfl ?_
            refine nz_goto (pc := 87) (tgt := 32) E dX8_layEntries_87 (by decide) ?_
            refine nz_weak (lv' := [(0, .ref (q 0)), (1, .ref (q p)), (2, .int _), (3, .int _)]) ⟨rfl, rfl, rfl, rfl, trivial⟩ ?_
            exact ih _ _ _ hf hK
set_option maxHeartbeats 4000000 in
set_option maxRecDepth 20000 in
theorem w_X8_layEntries_2 {κ : nz_C} {q : Nat → Nat} {o : Unit × nz_S} (p : Nat) (hp : nz_isP p) (E : nz_Env κ q nz_tM 4 cX8_layEntries RX8 (nz_T yX8_layEntries cX8_layEntries 4 (none)) (nz_R 2 47)) (hR : nz_RV κ q nz_tM o) : ∀ (fu : Nat) (w2 : Int32) (x : nz_S) (K : Int32 → nz_S → Option (Unit × nz_S)), f_X8_layEntries_2 p fu w2 x K = some o → (∀ (w2 : Int32) (x : nz_S), K w2 x = some o → nz_St κ q nz_tM 4 96 [(0, .ref (q 0)), (1, .ref (q p)), (2, .int w2)] [] x) → nz_St κ q nz_tM 4 2 [(0, .ref (q 0)), (1, .ref (q p)), (2, .int w2)] [] x := by
  intro fu
  induction fu with
  | zero => intro w2 x K hf; rw [f_X8_layEntries_2] at hf; cases hf
  | succ fu ih =>
    intro w2 x K hf hK
    rw [f_X8_layEntries_2] at hf
    refine nz_iload_n (pc := 2) (i := 2) E dX8_layEntries_2 rfl rfl ?_
    refine nz_bipush (pc := 3) (v := 12) E dX8_layEntries_3 (by decide) ?_
    refine nz_icmp_ge (pc := 5) (tgt := 96) E dX8_layEntries_5 (by decide) (fun h1 => ?_) (fun h1 => ?_)
    · have hf := nz_ite_t hf h1
      refine nz_weak (lv' := [(0, .ref (q 0)), (1, .ref (q p)), (2, .int _)]) ⟨rfl, rfl, rfl, trivial⟩ ?_
      exact hK _ _ hf
    · have hf := nz_ite_f hf h1
      refine nz_aload_n (pc := 8) (i := 0) E dX8_layEntries_8 rfl rfl ?_
      refine nz_getR (pc := 9) (c := 0) (kf := 23) E rfl rfl (nz_upT nz_uX8) (by decide) (List.mem_cons_of_mem _ nz_w699) rfl rfl dX8_layEntries_9 ?_
      refine nz_iload_n (pc := 12) (i := 2) E dX8_layEntries_12 rfl rfl ?_
      refine nz_iconst (pc := 13) (v := 0) E dX8_layEntries_13 (by decide) ?_
      obtain ⟨h2, hf⟩ := nz_chk_t hf
      refine nz_iast (pc := 14) (c := 17) E rfl h2 dX8_layEntries_14 ?_
      refine nz_aload_n (pc := 15) (i := 0) E dX8_layEntries_15 rfl rfl ?_
      refine nz_getR (pc := 16) (c := 0) (kf := 21) E rfl rfl (nz_upT nz_uX8) (by decide) (List.mem_cons_of_mem _ nz_w697) rfl rfl dX8_layEntries_16 ?_
      refine nz_iload_n (pc := 19) (i := 2) E dX8_layEntries_19 rfl rfl ?_
      refine nz_bipush (pc := 20) (v := -9) E dX8_layEntries_20 (by decide) ?_
      obtain ⟨h4, hf⟩ := nz_chk_t hf
      refine nz_iast (pc := 22) (c := 15) E rfl h4 dX8_layEntries_22 ?_
      refine nz_aload_n (pc := 23) (i := 0) E dX8_layEntries_23 rfl rfl ?_
      refine nz_getR (pc := 24) (c := 0) (kf := 22) E rfl rfl (nz_upT nz_uX8) (by decide) (List.mem_cons_of_mem _ nz_w698) rfl rfl dX8_layEntries_24 ?_
      refine nz_iload_n (pc := 27) (i := 2) E dX8_layEntries_27 rfl rfl ?_
      refine nz_iconst (pc := 28) (v := 0) E dX8_layEntries_28 (by decide) ?_
      obtain ⟨h6, hf⟩ := nz_chk_t hf
      refine nz_iast (pc := 29) (c := 16) E rfl h6 dX8_layEntries_29 ?_
      refine nz_iconst (pc := 30) (v := 0) E dX8_layEntries_30 (by decide) ?_
      refine nz_istore_n (pc := 31) (i := 3) E dX8_layEntries_31 rfl (by decide) rfl ?_
      refine nz_weak (lv' := [(0, .ref (q 0)), (1, .ref (q p)), (2, .int _), (3, .int _)]) ⟨rfl, rfl, rfl, rfl, trivial⟩ ?_
      refine w_X8_layEntries_32 p hp _ E hR _ _ _ _ hf (fun u34 x33 hf => ?_)
      refine nz_iinc (pc := 90) (i := 2) (w := 1) E dX8_layEntries_90 rfl (by decide) (by decide) rfl ?_
      refine nz_goto (pc := 93) (tgt := 2) E dX8_layEntries_93 (by decide) ?_
      refine nz_weak (lv' := [(0, .ref (q 0)), (1, .ref (q p)), (2, .int _)]) ⟨rfl, rfl, rfl, trivial⟩ ?_
      exact ih _ _ _ hf hK
set_option maxHeartbeats 4000000 in
set_option maxRecDepth 20000 in
theorem k_X8_layEntries {l : Launch} {w : nz_O} {q : Nat → Nat} (p : Nat) (hp : nz_isP p) (x : nz_S) (o : Unit × nz_S) (hf : f_X8_layEntries p x = some o) : nz_MV l yX8_layEntries (nz_T yX8_layEntries cX8_layEntries 4 (none)) (nz_R 2 47) w q nz_tM [.ref (q 0), .ref (q p)] x o := by
  refine nz_enterV (by decide) rfl (Nat.le_of_ble_eq_true rfl) rfl rfl ?_
  intro κ E hw hlq hR
  subst hw; subst hlq
  unfold f_X8_layEntries at hf
  refine nz_weak (lv' := [(0, .ref (q 0)), (1, .ref (q p))]) ⟨rfl, rfl, trivial⟩ ?_
  refine nz_iconst (pc := 0) (v := 0) E dX8_layEntries_0 (by decide) ?_
  refine nz_istore_n (pc := 1) (i := 2) E dX8_layEntries_1 rfl (by decide) rfl ?_
  refine nz_weak (lv' := [(0, .ref (q 0)), (1, .ref (q p)), (2, .int _)]) ⟨rfl, rfl, rfl, trivial⟩ ?_
  refine w_X8_layEntries_2 p hp E hR _ _ _ _ hf (fun u37 x36 hf => ?_)
  exact nz_vret (pc := 96) E hR hf dX8_layEntries_96
def f_X8_backs_5 (p : Nat) (c2 : Int32) : Nat → Int32 → Int32 → nz_S → (Int32 → Int32 → nz_S → Option (Int32 × nz_S)) → Option (Int32 × nz_S)
  | 0, _, _, _, _ => none
  | fu + 1, w3, w4, x, K =>
  nz_chk (nz_in (0 : Int32) 61) <|
  if (x.1 p ((0 : Int32)).toNatClampNeg) ≤ w4 then
    K w3 w4 x
  else
    nz_chk (nz_in w4 12) <|
    if (x.1 11 (w4).toNatClampNeg) = (-9 : Int32) then
      let v5 : Int32 := (w3 ||| (0 : Int32))
      let v6 : Int32 := w4 + 1
      f_X8_backs_5 p c2 fu v5 v6 x K
    else
      nz_bnd (f_X8_goes p w4 c2 x) fun r7 x8 =>
      if r7 = (0 : Int32) then
        let v11 : Int32 := (w3 ||| (0 : Int32))
        let v12 : Int32 := w4 + 1
        f_X8_backs_5 p c2 fu v11 v12 x8 K
      else
        nz_bnd (f_X8_isAbove  c2 w4 x8) fun r13 x14 =>
        if r13 = (0 : Int32) then
          let v17 : Int32 := (w3 ||| (0 : Int32))
          let v18 : Int32 := w4 + 1
          f_X8_backs_5 p c2 fu v17 v18 x14 K
        else
          let v19 : Int32 := (w3 ||| ((1 : Int32) <<< (w4 &&& 31)))
          let v20 : Int32 := w4 + 1
          f_X8_backs_5 p c2 fu v19 v20 x14 K
def f_X8_backs (p : Nat) (a0 : Int32) (x : nz_S) : Option (Int32 × nz_S) :=
  f_X8_backs_5 p a0 nz_F (0 : Int32) (0 : Int32) x fun u22 u23 x21 =>
    some (u22, x21)
theorem ds_X8_backs : nz_dsc yX8_backs 2 := by unfold nz_dsc; decide +kernel
set_option maxHeartbeats 4000000 in
set_option maxRecDepth 20000 in
theorem w_X8_backs_5 {κ : nz_C} {q : Nat → Nat} {o : Int32 × nz_S} (p : Nat) (hp : nz_isP p) (c2 : Int32) (E : nz_Env κ q nz_tM 5 cX8_backs RX8 (nz_T yX8_backs cX8_backs 5 (some .int)) (nz_R 2 47)) (hR : nz_RI κ q nz_tM .int o) : ∀ (fu : Nat) (w3 : Int32) (w4 : Int32) (x : nz_S) (K : Int32 → Int32 → nz_S → Option (Int32 × nz_S)), f_X8_backs_5 p c2 fu w3 w4 x K = some o → (∀ (w3 : Int32) (w4 : Int32) (x : nz_S), K w3 w4 x = some o → nz_St κ q nz_tM 5 62 [(0, .ref (q 0)), (1, .ref (q p)), (2, .int c2), (3, .int w3), (4, .int w4)] [] x) → nz_St κ q nz_tM 5 5 [(0, .ref (q 0)), (1, .ref (q p)), (2, .int c2), (3, .int w3), (4, .int w4)] [] x := by
  intro fu
  induction fu with
  | zero => intro w3 w4 x K hf; rw [f_X8_backs_5] at hf; cases hf
  | succ fu ih =>
    intro w3 w4 x K hf hK
    rw [f_X8_backs_5] at hf
    refine nz_iload (pc := 5) (i := 4) E dX8_backs_5 rfl ?_
    refine nz_aload_n (pc := 7) (i := 1) E dX8_backs_7 rfl rfl ?_
    refine nz_iconst (pc := 8) (v := 0) E dX8_backs_8 (by decide) ?_
    obtain ⟨h1, hf⟩ := nz_chk_t hf
    refine nz_iald (pc := 9) (c := p) E hp h1 dX8_backs_9 ?_
    refine nz_icmp_ge (pc := 10) (tgt := 62) E dX8_backs_10 (by decide) (fun h2 => ?_) (fun h2 => ?_)
    · have hf := nz_ite_t hf h2
      refine nz_weak (lv' := [(0, .ref (q 0)), (1, .ref (q p)), (2, .int _), (3, .int _), (4, .int _)]) ⟨rfl, rfl, rfl, rfl, rfl, trivial⟩ ?_
      exact hK _ _ _ hf
    · have hf := nz_ite_f hf h2
      refine nz_iload_n (pc := 13) (i := 3) E dX8_backs_13 rfl rfl ?_
      refine nz_aload_n (pc := 14) (i := 0) E dX8_backs_14 rfl rfl ?_
      refine nz_getR (pc := 15) (c := 0) (kf := 17) E rfl rfl (nz_upT nz_uX8) (by decide) (List.mem_cons_of_mem _ nz_w693) rfl rfl dX8_backs_15 ?_
      refine nz_iload (pc := 18) (i := 4) E dX8_backs_18 rfl ?_
      obtain ⟨h3, hf⟩ := nz_chk_t hf
      refine nz_iald (pc := 20) (c := 11) E rfl h3 dX8_backs_20 ?_
      refine nz_bipush (pc := 21) (v := -9) E dX8_backs_21 (by decide) ?_
      refine nz_icmp_eq (pc := 23) (tgt := 53) E dX8_backs_23 (by decide) (fun h4 => ?_) (fun h4 => ?_)
      · have hf := nz_ite_t hf h4
        refine nz_iconst (pc := 53) (v := 0) E dX8_backs_53 (by decide) ?_
        refine nz_ior (pc := 54) E dX8_backs_54 ?_
        refine nz_istore_n (pc := 55) (i := 3) E dX8_backs_55 rfl (by decide) rfl ?_
        refine nz_iinc (pc := 56) (i := 4) (w := 1) E dX8_backs_56 rfl (by decide) (by decide) rfl ?_
        refine nz_goto (pc := 59) (tgt := 5) E dX8_backs_59 (by decide) ?_
        refine nz_weak (lv' := [(0, .ref (q 0)), (1, .ref (q p)), (2, .int _), (3, .int _), (4, .int _)]) ⟨rfl, rfl, rfl, rfl, rfl, trivial⟩ ?_
        exact ih _ _ _ _ hf hK
      · have hf := nz_ite_f hf h4
        refine nz_aload_n (pc := 26) (i := 1) E dX8_backs_26 rfl rfl ?_
        refine nz_iload (pc := 27) (i := 4) E dX8_backs_27 rfl ?_
        refine nz_iload_n (pc := 29) (i := 2) E dX8_backs_29 rfl rfl ?_
        obtain ⟨r7, x8, h9, hf⟩ := nz_bnd_t hf
        refine nz_callSI (pc := 30) (As := [.ref (q p), .int _, .int _]) E (k_X8_goes p hp _ _ _ _ h9) (nz_cwS E nz_w816 nz_w817 nz_w67 nz_w818 ds_X8_goes ⟨Nat.le_of_ble_eq_true rfl, Nat.le_of_ble_eq_true rfl⟩ rfl rfl) rfl rfl (Nat.le_of_ble_eq_true rfl) dX8_backs_30 ?_
        refine nz_if_eq (pc := 33) (tgt := 53) E dX8_backs_33 (by decide) (fun h10 => ?_) (fun h10 => ?_)
        · have hf := nz_ite_t hf h10
          refine nz_iconst (pc := 53) (v := 0) E dX8_backs_53 (by decide) ?_
          refine nz_ior (pc := 54) E dX8_backs_54 ?_
          refine nz_istore_n (pc := 55) (i := 3) E dX8_backs_55 rfl (by decide) rfl ?_
          refine nz_iinc (pc := 56) (i := 4) (w := 1) E dX8_backs_56 rfl (by decide) (by decide) rfl ?_
          refine nz_goto (pc := 59) (tgt := 5) E dX8_backs_59 (by decide) ?_
          refine nz_weak (lv' := [(0, .ref (q 0)), (1, .ref (q p)), (2, .int _), (3, .int _), (4, .int _)]) ⟨rfl, rfl, rfl, rfl, rfl, trivial⟩ ?_
          exact ih _ _ _ _ hf hK
        · have hf := nz_ite_f hf h10
          refine nz_aload_n (pc := 36) (i := 0) E dX8_backs_36 rfl rfl ?_
          refine nz_iload_n (pc := 37) (i := 2) E dX8_backs_37 rfl rfl ?_
          refine nz_iload (pc := 38) (i := 4) E dX8_backs_38 rfl ?_
          obtain ⟨r13, x14, h15, hf⟩ := nz_bnd_t hf
          refine nz_callVI (pc := 40) (c0 := 0) (As := [.int _, .int _]) E rfl rfl (k_X8_isAbove   _ _ _ _ h15) (nz_cwV E nz_w819 nz_w821 nz_w28 nz_w67 nz_w822 ds_X8_isAbove ⟨Nat.le_of_ble_eq_true rfl, Nat.le_of_ble_eq_true rfl⟩ rfl rfl) rfl rfl (Nat.le_of_ble_eq_true rfl) dX8_backs_40 ?_
          refine nz_if_eq (pc := 43) (tgt := 53) E dX8_backs_43 (by decide) (fun h16 => ?_) (fun h16 => ?_)
          · have hf := nz_ite_t hf h16
            refine nz_iconst (pc := 53) (v := 0) E dX8_backs_53 (by decide) ?_
            refine nz_ior (pc := 54) E dX8_backs_54 ?_
            refine nz_istore_n (pc := 55) (i := 3) E dX8_backs_55 rfl (by decide) rfl ?_
            refine nz_iinc (pc := 56) (i := 4) (w := 1) E dX8_backs_56 rfl (by decide) (by decide) rfl ?_
            refine nz_goto (pc := 59) (tgt := 5) E dX8_backs_59 (by decide) ?_
            refine nz_weak (lv' := [(0, .ref (q 0)), (1, .ref (q p)), (2, .int _), (3, .int _), (4, .int _)]) ⟨rfl, rfl, rfl, rfl, rfl, trivial⟩ ?_
            exact ih _ _ _ _ hf hK
          · have hf := nz_ite_f hf h16
            refine nz_iconst (pc := 46) (v := 1) E dX8_backs_46 (by decide) ?_
            refine nz_iload (pc := 47) (i := 4) E dX8_backs_47 rfl ?_
            refine nz_ishl (pc := 49) E dX8_backs_49 ?_
            refine nz_goto (pc := 50) (tgt := 54) E dX8_backs_50 (by decide) ?_
            refine nz_ior (pc := 54) E dX8_backs_54 ?_
            refine nz_istore_n (pc := 55) (i := 3) E dX8_backs_55 rfl (by decide) rfl ?_
            refine nz_iinc (pc := 56) (i := 4) (w := 1) E dX8_backs_56 rfl (by decide) (by decide) rfl ?_
            refine nz_goto (pc := 59) (tgt := 5) E dX8_backs_59 (by decide) ?_
            refine nz_weak (lv' := [(0, .ref (q 0)), (1, .ref (q p)), (2, .int _), (3, .int _), (4, .int _)]) ⟨rfl, rfl, rfl, rfl, rfl, trivial⟩ ?_
            exact ih _ _ _ _ hf hK
set_option maxHeartbeats 4000000 in
set_option maxRecDepth 20000 in
theorem k_X8_backs {l : Launch} {w : nz_O} {q : Nat → Nat} (p : Nat) (hp : nz_isP p) (a0 : Int32) (x : nz_S) (o : Int32 × nz_S) (hf : f_X8_backs p a0 x = some o) : nz_MI l yX8_backs (nz_T yX8_backs cX8_backs 5 (some .int)) (nz_R 2 47) w q nz_tM [.ref (q 0), .ref (q p), .int a0] x o := by
  refine nz_enterI (by decide) rfl (Nat.le_of_ble_eq_true rfl) rfl rfl ?_
  intro κ E hw hlq hR
  subst hw; subst hlq
  unfold f_X8_backs at hf
  refine nz_weak (lv' := [(0, .ref (q 0)), (1, .ref (q p)), (2, .int a0)]) ⟨rfl, rfl, rfl, trivial⟩ ?_
  refine nz_iconst (pc := 0) (v := 0) E dX8_backs_0 (by decide) ?_
  refine nz_istore_n (pc := 1) (i := 3) E dX8_backs_1 rfl (by decide) rfl ?_
  refine nz_iconst (pc := 2) (v := 0) E dX8_backs_2 (by decide) ?_
  refine nz_istore (pc := 3) (i := 4) E dX8_backs_3 (by decide) rfl ?_
  refine nz_weak (lv' := [(0, .ref (q 0)), (1, .ref (q p)), (2, .int _), (3, .int _), (4, .int _)]) ⟨rfl, rfl, rfl, rfl, rfl, trivial⟩ ?_
  refine w_X8_backs_5 p hp _ E hR _ _ _ _ _ hf (fun u22 u23 x21 hf => ?_)
  refine nz_iload_n (pc := 62) (i := 3) E dX8_backs_62 rfl rfl ?_
  exact nz_iret (pc := 63) E hR rfl hf dX8_backs_63
def f_X8_drawnBy_5 (c1 : Int32) (c2 : Int32) : Nat → Int32 → Int32 → nz_S → (Int32 → Int32 → nz_S → Option (Int32 × nz_S)) → Option (Int32 × nz_S)
  | 0, _, _, _, _ => none
  | fu + 1, w3, w4, x, K =>
  if (12 : Int32) ≤ w4 then
    K w3 w4 x
  else
    nz_chk (nz_in c2 12) <|
    nz_bnd (f_X8_has  (x.1 17 (c2).toNatClampNeg) w4 x) fun r3 x4 =>
    if r3 = (0 : Int32) then
      let v7 : Int32 := w4 + 1
      f_X8_drawnBy_5 c1 c2 fu w3 v7 x4 K
    else
      nz_bnd (f_X8_leader  w4 x4) fun r8 x9 =>
      nz_bnd (f_X8_isAbove  c1 r8 x9) fun r11 x12 =>
      if r11 = (0 : Int32) then
        let v15 : Int32 := (w3 ||| (0 : Int32))
        nz_chk (nz_in c1 12) <|
        if r11 = (0 : Int32) then
          nz_chk (nz_in c1 12) <|
          let x19 : nz_S := nz_put x12 17 (c1).toNatClampNeg ((x12.1 17 (c1).toNatClampNeg) ||| ((1 : Int32) <<< (r8 &&& 31)))
          if r11 = (0 : Int32) then
            nz_chk (nz_in c1 12) <|
            let x22 : nz_S := nz_put x19 16 (c1).toNatClampNeg (3 : Int32)
            let v23 : Int32 := w4 + 1
            f_X8_drawnBy_5 c1 c2 fu v15 v23 x22 K
          else
            nz_chk (nz_in c1 12) <|
            nz_chk (nz_in c1 12) <|
            let x26 : nz_S := nz_put x19 16 (c1).toNatClampNeg (x19.1 16 (c1).toNatClampNeg)
            let v27 : Int32 := w4 + 1
            f_X8_drawnBy_5 c1 c2 fu v15 v27 x26 K
        else
          nz_chk (nz_in c1 12) <|
          let x29 : nz_S := nz_put x12 17 (c1).toNatClampNeg ((x12.1 17 (c1).toNatClampNeg) ||| (0 : Int32))
          if r11 = (0 : Int32) then
            nz_chk (nz_in c1 12) <|
            let x32 : nz_S := nz_put x29 16 (c1).toNatClampNeg (3 : Int32)
            let v33 : Int32 := w4 + 1
            f_X8_drawnBy_5 c1 c2 fu v15 v33 x32 K
          else
            nz_chk (nz_in c1 12) <|
            nz_chk (nz_in c1 12) <|
            let x36 : nz_S := nz_put x29 16 (c1).toNatClampNeg (x29.1 16 (c1).toNatClampNeg)
            let v37 : Int32 := w4 + 1
            f_X8_drawnBy_5 c1 c2 fu v15 v37 x36 K
      else
        if r8 = c1 then
          let v39 : Int32 := (w3 ||| (0 : Int32))
          nz_chk (nz_in c1 12) <|
          if r11 = (0 : Int32) then
            nz_chk (nz_in c1 12) <|
            let x43 : nz_S := nz_put x12 17 (c1).toNatClampNeg ((x12.1 17 (c1).toNatClampNeg) ||| ((1 : Int32) <<< (r8 &&& 31)))
            if r11 = (0 : Int32) then
              nz_chk (nz_in c1 12) <|
              let x46 : nz_S := nz_put x43 16 (c1).toNatClampNeg (3 : Int32)
              let v47 : Int32 := w4 + 1
              f_X8_drawnBy_5 c1 c2 fu v39 v47 x46 K
            else
              nz_chk (nz_in c1 12) <|
              nz_chk (nz_in c1 12) <|
              let x50 : nz_S := nz_put x43 16 (c1).toNatClampNeg (x43.1 16 (c1).toNatClampNeg)
              let v51 : Int32 := w4 + 1
              f_X8_drawnBy_5 c1 c2 fu v39 v51 x50 K
          else
            nz_chk (nz_in c1 12) <|
            let x53 : nz_S := nz_put x12 17 (c1).toNatClampNeg ((x12.1 17 (c1).toNatClampNeg) ||| (0 : Int32))
            if r11 = (0 : Int32) then
              nz_chk (nz_in c1 12) <|
              let x56 : nz_S := nz_put x53 16 (c1).toNatClampNeg (3 : Int32)
              let v57 : Int32 := w4 + 1
              f_X8_drawnBy_5 c1 c2 fu v39 v57 x56 K
            else
              nz_chk (nz_in c1 12) <|
              nz_chk (nz_in c1 12) <|
              let x60 : nz_S := nz_put x53 16 (c1).toNatClampNeg (x53.1 16 (c1).toNatClampNeg)
              let v61 : Int32 := w4 + 1
              f_X8_drawnBy_5 c1 c2 fu v39 v61 x60 K
        else
          let v62 : Int32 := (w3 ||| ((1 : Int32) <<< (r8 &&& 31)))
          nz_chk (nz_in c1 12) <|
          if r11 = (0 : Int32) then
            nz_chk (nz_in c1 12) <|
            let x66 : nz_S := nz_put x12 17 (c1).toNatClampNeg ((x12.1 17 (c1).toNatClampNeg) ||| ((1 : Int32) <<< (r8 &&& 31)))
            if r11 = (0 : Int32) then
              nz_chk (nz_in c1 12) <|
              let x69 : nz_S := nz_put x66 16 (c1).toNatClampNeg (3 : Int32)
              let v70 : Int32 := w4 + 1
              f_X8_drawnBy_5 c1 c2 fu v62 v70 x69 K
            else
              nz_chk (nz_in c1 12) <|
              nz_chk (nz_in c1 12) <|
              let x73 : nz_S := nz_put x66 16 (c1).toNatClampNeg (x66.1 16 (c1).toNatClampNeg)
              let v74 : Int32 := w4 + 1
              f_X8_drawnBy_5 c1 c2 fu v62 v74 x73 K
          else
            nz_chk (nz_in c1 12) <|
            let x76 : nz_S := nz_put x12 17 (c1).toNatClampNeg ((x12.1 17 (c1).toNatClampNeg) ||| (0 : Int32))
            if r11 = (0 : Int32) then
              nz_chk (nz_in c1 12) <|
              let x79 : nz_S := nz_put x76 16 (c1).toNatClampNeg (3 : Int32)
              let v80 : Int32 := w4 + 1
              f_X8_drawnBy_5 c1 c2 fu v62 v80 x79 K
            else
              nz_chk (nz_in c1 12) <|
              nz_chk (nz_in c1 12) <|
              let x83 : nz_S := nz_put x76 16 (c1).toNatClampNeg (x76.1 16 (c1).toNatClampNeg)
              let v84 : Int32 := w4 + 1
              f_X8_drawnBy_5 c1 c2 fu v62 v84 x83 K
def f_X8_drawnBy (a0 : Int32) (a1 : Int32) (x : nz_S) : Option (Int32 × nz_S) :=
  f_X8_drawnBy_5 a0 a1 nz_F (0 : Int32) (0 : Int32) x fun u86 u87 x85 =>
    some (u86, x85)
theorem ds_X8_drawnBy : nz_dsc yX8_drawnBy 2 := by unfold nz_dsc; decide +kernel
set_option maxHeartbeats 4000000 in
set_option maxRecDepth 20000 in
theorem w_X8_drawnBy_5 {κ : nz_C} {q : Nat → Nat} {o : Int32 × nz_S} (c1 : Int32) (c2 : Int32) (E : nz_Env κ q nz_tM 7 cX8_drawnBy RX8 (nz_T yX8_drawnBy cX8_drawnBy 7 (some .int)) (nz_R 2 47)) (hR : nz_RI κ q nz_tM .int o) : ∀ (fu : Nat) (w3 : Int32) (w4 : Int32) (x : nz_S) (K : Int32 → Int32 → nz_S → Option (Int32 × nz_S)), f_X8_drawnBy_5 c1 c2 fu w3 w4 x K = some o → (∀ (w3 : Int32) (w4 : Int32) (x : nz_S), K w3 w4 x = some o → nz_St κ q nz_tM 7 114 [(0, .ref (q 0)), (1, .int c1), (2, .int c2), (3, .int w3), (4, .int w4)] [] x) → nz_St κ q nz_tM 7 5 [(0, .ref (q 0)), (1, .int c1), (2, .int c2), (3, .int w3), (4, .int w4)] [] x := by
  intro fu
  induction fu with
  | zero => intro w3 w4 x K hf; rw [f_X8_drawnBy_5] at hf; cases hf
  | succ fu ih =>
    intro w3 w4 x K hf hK
    rw [f_X8_drawnBy_5] at hf
    refine nz_iload (pc := 5) (i := 4) E dX8_drawnBy_5 rfl ?_
    refine nz_bipush (pc := 7) (v := 12) E dX8_drawnBy_7 (by decide) ?_
    refine nz_icmp_ge (pc := 9) (tgt := 114) E dX8_drawnBy_9 (by decide) (fun h1 => ?_) (fun h1 => ?_)
    · have hf := nz_ite_t hf h1
      refine nz_weak (lv' := [(0, .ref (q 0)), (1, .int _), (2, .int _), (3, .int _), (4, .int _)]) ⟨rfl, rfl, rfl, rfl, rfl, trivial⟩ ?_
      exact hK _ _ _ hf
    · have hf := nz_ite_f hf h1
      refine nz_aload_n (pc := 12) (i := 0) E dX8_drawnBy_12 rfl rfl ?_
      refine nz_getR (pc := 13) (c := 0) (kf := 23) E rfl rfl (nz_upT nz_uX8) (by decide) (List.mem_cons_of_mem _ nz_w699) rfl rfl dX8_drawnBy_13 ?_
      refine nz_iload_n (pc := 16) (i := 2) E dX8_drawnBy_16 rfl rfl ?_
      obtain ⟨h2, hf⟩ := nz_chk_t hf
      refine nz_iald (pc := 17) (c := 17) E rfl h2 dX8_drawnBy_17 ?_
      refine nz_iload (pc := 18) (i := 4) E dX8_drawnBy_18 rfl ?_
      obtain ⟨r3, x4, h5, hf⟩ := nz_bnd_t hf
      refine nz_callSI (pc := 20) (As := [.int _, .int _]) E (k_X8_has   _ _ _ _ h5) (nz_cwS E nz_w831 nz_w832 nz_w67 nz_w833 ds_X8_has ⟨Nat.le_of_ble_eq_true rfl, Nat.le_of_ble_eq_true rfl⟩ rfl rfl) rfl rfl (Nat.le_of_ble_eq_true rfl) dX8_drawnBy_20 ?_
      refine nz_if_eq (pc := 23) (tgt := 108) E dX8_drawnBy_23 (by decide) (fun h6 => ?_) (fun h6 => ?_)
      · have hf := nz_ite_t hf h6
        refine nz_iinc (pc := 108) (i := 4) (w := 1) E dX8_drawnBy_108 rfl (by decide) (by decide) rfl ?_
        refine nz_goto (pc := 111) (tgt := 5) E dX8_drawnBy_111 (by decide) ?_
        refine nz_weak (lv' := [(0, .ref (q 0)), (1, .int _), (2, .int _), (3, .int _), (4, .int _)]) ⟨rfl, rfl, rfl, rfl, rfl, trivial⟩ ?_
        exact ih _ _ _ _ hf hK
      · have hf := nz_ite_f hf h6
        refine nz_aload_n (pc := 26) (i := 0) E dX8_drawnBy_26 rfl rfl ?_
        refine nz_iload (pc := 27) (i := 4) E dX8_drawnBy_27 rfl ?_
        obtain ⟨r8, x9, h10, hf⟩ := nz_bnd_t hf
        refine nz_callVI (pc := 29) (c0 := 0) (As := [.int _]) E rfl rfl (k_X8_leader   _ _ _ h10) (nz_cwV E nz_w834 nz_w836 nz_w31 nz_w67 nz_w837 ds_X8_leader ⟨Nat.le_of_ble_eq_true rfl, Nat.le_of_ble_eq_true rfl⟩ rfl rfl) rfl rfl (Nat.le_of_ble_eq_true rfl) dX8_drawnBy_29 ?_
        refine nz_istore (pc := 32) (i := 5) E dX8_drawnBy_32 (by decide) rfl ?_
        refine nz_aload_n (pc := 34) (i := 0) E dX8_drawnBy_34 rfl rfl ?_
        refine nz_iload_n (pc := 35) (i := 1) E dX8_drawnBy_35 rfl rfl ?_
        refine nz_iload (pc := 36) (i := 5) E dX8_drawnBy_36 rfl ?_
        obtain ⟨r11, x12, h13, hf⟩ := nz_bnd_t hf
        refine nz_callVI (pc := 38) (c0 := 0) (As := [.int _, .int _]) E rfl rfl (k_X8_isAbove   _ _ _ _ h13) (nz_cwV E nz_w819 nz_w821 nz_w28 nz_w67 nz_w822 ds_X8_isAbove ⟨Nat.le_of_ble_eq_true rfl, Nat.le_of_ble_eq_true rfl⟩ rfl rfl) rfl rfl (Nat.le_of_ble_eq_true rfl) dX8_drawnBy_38 ?_
        refine nz_istore (pc := 41) (i := 6) E dX8_drawnBy_41 (by decide) rfl ?_
        refine nz_iload_n (pc := 43) (i := 3) E dX8_drawnBy_43 rfl rfl ?_
        refine nz_iload (pc := 44) (i := 6) E dX8_drawnBy_44 rfl ?_
        refine nz_if_eq (pc := 46) (tgt := 62) E dX8_drawnBy_46 (by decide) (fun h14 => ?_) (fun h14 => ?_)
        · have hf := nz_ite_t hf h14
          refine nz_iconst (pc := 62) (v := 0) E dX8_drawnBy_62 (by decide) ?_
          refine nz_ior (pc := 63) E dX8_drawnBy_63 ?_
          refine nz_istore_n (pc := 64) (i := 3) E dX8_drawnBy_64 rfl (by decide) rfl ?_
          refine nz_aload_n (pc := 65) (i := 0) E dX8_drawnBy_65 rfl rfl ?_
          refine nz_getR (pc := 66) (c := 0) (kf := 23) E rfl rfl (nz_upT nz_uX8) (by decide) (List.mem_cons_of_mem _ nz_w699) rfl rfl dX8_drawnBy_66 ?_
          refine nz_iload_n (pc := 69) (i := 1) E dX8_drawnBy_69 rfl rfl ?_
          refine nz_dup2 (pc := 70) E dX8_drawnBy_70 rfl rfl ?_
          obtain ⟨h16, hf⟩ := nz_chk_t hf
          refine nz_iald (pc := 71) (c := 17) E rfl h16 dX8_drawnBy_71 ?_
          refine nz_iload (pc := 72) (i := 6) E dX8_drawnBy_72 rfl ?_
          refine nz_if_eq (pc := 74) (tgt := 81) E dX8_drawnBy_74 (by decide) (fun h17 => ?_) (fun h17 => ?_)
          · have hf := nz_ite_t hf h17
            refine nz_iconst (pc := 81) (v := 1) E dX8_drawnBy_81 (by decide) ?_
            refine nz_iload (pc := 82) (i := 5) E dX8_drawnBy_82 rfl ?_
            refine nz_ishl (pc := 84) E dX8_drawnBy_84 ?_
            refine nz_ior (pc := 85) E dX8_drawnBy_85 ?_
            obtain ⟨h18, hf⟩ := nz_chk_t hf
            refine nz_iast (pc := 86) (c := 17) E rfl h18 dX8_drawnBy_86 ?_
            refine nz_aload_n (pc := 87) (i := 0) E dX8_drawnBy_87 rfl rfl ?_
            refine nz_getR (pc := 88) (c := 0) (kf := 22) E rfl rfl (nz_upT nz_uX8) (by decide) (List.mem_cons_of_mem _ nz_w698) rfl rfl dX8_drawnBy_88 ?_
            refine nz_iload_n (pc := 91) (i := 1) E dX8_drawnBy_91 rfl rfl ?_
            refine nz_iload (pc := 92) (i := 6) E dX8_drawnBy_92 rfl ?_
            refine nz_if_eq (pc := 94) (tgt := 106) E dX8_drawnBy_94 (by decide) (fun h20 => ?_) (fun h20 => ?_)
            · have hf := nz_ite_t hf h20
              refine nz_iconst (pc := 106) (v := 3) E dX8_drawnBy_106 (by decide) ?_
              obtain ⟨h21, hf⟩ := nz_chk_t hf
              refine nz_iast (pc := 107) (c := 16) E rfl h21 dX8_drawnBy_107 ?_
              refine nz_iinc (pc := 108) (i := 4) (w := 1) E dX8_drawnBy_108 rfl (by decide) (by decide) rfl ?_
              refine nz_goto (pc := 111) (tgt := 5) E dX8_drawnBy_111 (by decide) ?_
              refine nz_weak (lv' := [(0, .ref (q 0)), (1, .int _), (2, .int _), (3, .int _), (4, .int _)]) ⟨rfl, rfl, rfl, rfl, rfl, trivial⟩ ?_
              exact ih _ _ _ _ hf hK
            · have hf := nz_ite_f hf h20
              refine nz_aload_n (pc := 97) (i := 0) E dX8_drawnBy_97 rfl rfl ?_
              refine nz_getR (pc := 98) (c := 0) (kf := 22) E rfl rfl (nz_upT nz_uX8) (by decide) (List.mem_cons_of_mem _ nz_w698) rfl rfl dX8_drawnBy_98 ?_
              refine nz_iload_n (pc := 101) (i := 1) E dX8_drawnBy_101 rfl rfl ?_
              obtain ⟨h24, hf⟩ := nz_chk_t hf
              refine nz_iald (pc := 102) (c := 16) E rfl h24 dX8_drawnBy_102 ?_
              refine nz_goto (pc := 103) (tgt := 107) E dX8_drawnBy_103 (by decide) ?_
              obtain ⟨h25, hf⟩ := nz_chk_t hf
              refine nz_iast (pc := 107) (c := 16) E rfl h25 dX8_drawnBy_107 ?_
              refine nz_iinc (pc := 108) (i := 4) (w := 1) E dX8_drawnBy_108 rfl (by decide) (by decide) rfl ?_
              refine nz_goto (pc := 111) (tgt := 5) E dX8_drawnBy_111 (by decide) ?_
              refine nz_weak (lv' := [(0, .ref (q 0)), (1, .int _), (2, .int _), (3, .int _), (4, .int _)]) ⟨rfl, rfl, rfl, rfl, rfl, trivial⟩ ?_
              exact ih _ _ _ _ hf hK
          · have hf := nz_ite_f hf h17
            refine nz_iconst (pc := 77) (v := 0) E dX8_drawnBy_77 (by decide) ?_
            refine nz_goto (pc := 78) (tgt := 85) E dX8_drawnBy_78 (by decide) ?_
            refine nz_ior (pc := 85) E dX8_drawnBy_85 ?_
            obtain ⟨h28, hf⟩ := nz_chk_t hf
            refine nz_iast (pc := 86) (c := 17) E rfl h28 dX8_drawnBy_86 ?_
            refine nz_aload_n (pc := 87) (i := 0) E dX8_drawnBy_87 rfl rfl ?_
            refine nz_getR (pc := 88) (c := 0) (kf := 22) E rfl rfl (nz_upT nz_uX8) (by decide) (List.mem_cons_of_mem _ nz_w698) rfl rfl dX8_drawnBy_88 ?_
            refine nz_iload_n (pc := 91) (i := 1) E dX8_drawnBy_91 rfl rfl ?_
            refine nz_iload (pc := 92) (i := 6) E dX8_drawnBy_92 rfl ?_
            refine nz_if_eq (pc := 94) (tgt := 106) E dX8_drawnBy_94 (by decide) (fun h30 => ?_) (fun h30 => ?_)
            · have hf := nz_ite_t hf h30
              refine nz_iconst (pc := 106) (v := 3) E dX8_drawnBy_106 (by decide) ?_
              obtain ⟨h31, hf⟩ := nz_chk_t hf
              refine nz_iast (pc := 107) (c := 16) E rfl h31 dX8_drawnBy_107 ?_
              refine nz_iinc (pc := 108) (i := 4) (w := 1) E dX8_drawnBy_108 rfl (by decide) (by decide) rfl ?_
              refine nz_goto (pc := 111) (tgt := 5) E dX8_drawnBy_111 (by decide) ?_
              refine nz_weak (lv' := [(0, .ref (q 0)), (1, .int _), (2, .int _), (3, .int _), (4, .int _)]) ⟨rfl, rfl, rfl, rfl, rfl, trivial⟩ ?_
              exact ih _ _ _ _ hf hK
            · have hf := nz_ite_f hf h30
              refine nz_aload_n (pc := 97) (i := 0) E dX8_drawnBy_97 rfl rfl ?_
              refine nz_getR (pc := 98) (c := 0) (kf := 22) E rfl rfl (nz_upT nz_uX8) (by decide) (List.mem_cons_of_mem _ nz_w698) rfl rfl dX8_drawnBy_98 ?_
              refine nz_iload_n (pc := 101) (i := 1) E dX8_drawnBy_101 rfl rfl ?_
              obtain ⟨h34, hf⟩ := nz_chk_t hf
              refine nz_iald (pc := 102) (c := 16) E rfl h34 dX8_drawnBy_102 ?_
              refine nz_goto (pc := 103) (tgt := 107) E dX8_drawnBy_103 (by decide) ?_
              obtain ⟨h35, hf⟩ := nz_chk_t hf
              refine nz_iast (pc := 107) (c := 16) E rfl h35 dX8_drawnBy_107 ?_
              refine nz_iinc (pc := 108) (i := 4) (w := 1) E dX8_drawnBy_108 rfl (by decide) (by decide) rfl ?_
              refine nz_goto (pc := 111) (tgt := 5) E dX8_drawnBy_111 (by decide) ?_
              refine nz_weak (lv' := [(0, .ref (q 0)), (1, .int _), (2, .int _), (3, .int _), (4, .int _)]) ⟨rfl, rfl, rfl, rfl, rfl, trivial⟩ ?_
              exact ih _ _ _ _ hf hK
        · have hf := nz_ite_f hf h14
          refine nz_iload (pc := 49) (i := 5) E dX8_drawnBy_49 rfl ?_
          refine nz_iload_n (pc := 51) (i := 1) E dX8_drawnBy_51 rfl rfl ?_
          refine nz_icmp_eq (pc := 52) (tgt := 62) E dX8_drawnBy_52 (by decide) (fun h38 => ?_) (fun h38 => ?_)
          · have hf := nz_ite_t hf h38
            refine nz_iconst (pc := 62) (v := 0) E dX8_drawnBy_62 (by decide) ?_
            refine nz_ior (pc := 63) E dX8_drawnBy_63 ?_
            refine nz_istore_n (pc := 64) (i := 3) E dX8_drawnBy_64 rfl (by decide) rfl ?_
            refine nz_aload_n (pc := 65) (i := 0) E dX8_drawnBy_65 rfl rfl ?_
            refine nz_getR (pc := 66) (c := 0) (kf := 23) E rfl rfl (nz_upT nz_uX8) (by decide) (List.mem_cons_of_mem _ nz_w699) rfl rfl dX8_drawnBy_66 ?_
            refine nz_iload_n (pc := 69) (i := 1) E dX8_drawnBy_69 rfl rfl ?_
            refine nz_dup2 (pc := 70) E dX8_drawnBy_70 rfl rfl ?_
            obtain ⟨h40, hf⟩ := nz_chk_t hf
            refine nz_iald (pc := 71) (c := 17) E rfl h40 dX8_drawnBy_71 ?_
            refine nz_iload (pc := 72) (i := 6) E dX8_drawnBy_72 rfl ?_
            refine nz_if_eq (pc := 74) (tgt := 81) E dX8_drawnBy_74 (by decide) (fun h41 => ?_) (fun h41 => ?_)
            · have hf := nz_ite_t hf h41
              refine nz_iconst (pc := 81) (v := 1) E dX8_drawnBy_81 (by decide) ?_
              refine nz_iload (pc := 82) (i := 5) E dX8_drawnBy_82 rfl ?_
              refine nz_ishl (pc := 84) E dX8_drawnBy_84 ?_
              refine nz_ior (pc := 85) E dX8_drawnBy_85 ?_
              obtain ⟨h42, hf⟩ := nz_chk_t hf
              refine nz_iast (pc := 86) (c := 17) E rfl h42 dX8_drawnBy_86 ?_
              refine nz_aload_n (pc := 87) (i := 0) E dX8_drawnBy_87 rfl rfl ?_
              refine nz_getR (pc := 88) (c := 0) (kf := 22) E rfl rfl (nz_upT nz_uX8) (by decide) (List.mem_cons_of_mem _ nz_w698) rfl rfl dX8_drawnBy_88 ?_
              refine nz_iload_n (pc := 91) (i := 1) E dX8_drawnBy_91 rfl rfl ?_
              refine nz_iload (pc := 92) (i := 6) E dX8_drawnBy_92 rfl ?_
              refine nz_if_eq (pc := 94) (tgt := 106) E dX8_drawnBy_94 (by decide) (fun h44 => ?_) (fun h44 => ?_)
              · have hf := nz_ite_t hf h44
                refine nz_iconst (pc := 106) (v := 3) E dX8_drawnBy_106 (by decide) ?_
                obtain ⟨h45, hf⟩ := nz_chk_t hf
                refine nz_iast (pc := 107) (c := 16) E rfl h45 dX8_drawnBy_107 ?_
                refine nz_iinc (pc := 108) (i := 4) (w := 1) E dX8_drawnBy_108 rfl (by decide) (by decide) rfl ?_
                refine nz_goto (pc := 111) (tgt := 5) E dX8_drawnBy_111 (by decide) ?_
                refine nz_weak (lv' := [(0, .ref (q 0)), (1, .int _), (2, .int _), (3, .int _), (4, .int _)]) ⟨rfl, rfl, rfl, rfl, rfl, trivial⟩ ?_
                exact ih _ _ _ _ hf hK
              · have hf := nz_ite_f hf h44
                refine nz_aload_n (pc := 97) (i := 0) E dX8_drawnBy_97 rfl rfl ?_
                refine nz_getR (pc := 98) (c := 0) (kf := 22) E rfl rfl (nz_upT nz_uX8) (by decide) (List.mem_cons_of_mem _ nz_w698) rfl rfl dX8_drawnBy_98 ?_
                refine nz_iload_n (pc := 101) (i := 1) E dX8_drawnBy_101 rfl rfl ?_
                obtain ⟨h48, hf⟩ := nz_chk_t hf
                refine nz_iald (pc := 102) (c := 16) E rfl h48 dX8_drawnBy_102 ?_
                refine nz_goto (pc := 103) (tgt := 107) E dX8_drawnBy_103 (by decide) ?_
                obtain ⟨h49, hf⟩ := nz_chk_t hf
                refine nz_iast (pc := 107) (c := 16) E rfl h49 dX8_drawnBy_107 ?_
                refine nz_iinc (pc := 108) (i := 4) (w := 1) E dX8_drawnBy_108 rfl (by decide) (by decide) rfl ?_
                refine nz_goto (pc := 111) (tgt := 5) E dX8_drawnBy_111 (by decide) ?_
                refine nz_weak (lv' := [(0, .ref (q 0)), (1, .int _), (2, .int _), (3, .int _), (4, .int _)]) ⟨rfl, rfl, rfl, rfl, rfl, trivial⟩ ?_
                exact ih _ _ _ _ hf hK
            · have hf := nz_ite_f hf h41
              refine nz_iconst (pc := 77) (v := 0) E dX8_drawnBy_77 (by decide) ?_
              refine nz_goto (pc := 78) (tgt := 85) E dX8_drawnBy_78 (by decide) ?_
              refine nz_ior (pc := 85) E dX8_drawnBy_85 ?_
              obtain ⟨h52, hf⟩ := nz_chk_t hf
              refine nz_iast (pc := 86) (c := 17) E rfl h52 dX8_drawnBy_86 ?_
              refine nz_aload_n (pc := 87) (i := 0) E dX8_drawnBy_87 rfl rfl ?_
              refine nz_getR (pc := 88) (c := 0) (kf := 22) E rfl rfl (nz_upT nz_uX8) (by decide) (List.mem_cons_of_mem _ nz_w698) rfl rfl dX8_drawnBy_88 ?_
              refine nz_iload_n (pc := 91) (i := 1) E dX8_drawnBy_91 rfl rfl ?_
              refine nz_iload (pc := 92) (i := 6) E dX8_drawnBy_92 rfl ?_
              refine nz_if_eq (pc := 94) (tgt := 106) E dX8_drawnBy_94 (by decide) (fun h54 => ?_) (fun h54 => ?_)
              · have hf := nz_ite_t hf h54
                refine nz_iconst (pc := 106) (v := 3) E dX8_drawnBy_106 (by decide) ?_
                obtain ⟨h55, hf⟩ := nz_chk_t hf
                refine nz_iast (pc := 107) (c := 16) E rfl h55 dX8_drawnBy_107 ?_
                refine nz_iinc (pc := 108) (i := 4) (w := 1) E dX8_drawnBy_108 rfl (by decide) (by decide) rfl ?_
                refine nz_goto (pc := 111) (tgt := 5) E dX8_drawnBy_111 (by decide) ?_
                refine nz_weak (lv' := [(0, .ref (q 0)), (1, .int _), (2, .int _), (3, .int _), (4, .int _)]) ⟨rfl, rfl, rfl, rfl, rfl, trivial⟩ ?_
                exact ih _ _ _ _ hf hK
              · have hf := nz_ite_f hf h54
                refine nz_aload_n (pc := 97) (i := 0) E dX8_drawnBy_97 rfl rfl ?_
                refine nz_getR (pc := 98) (c := 0) (kf := 22) E rfl rfl (nz_upT nz_uX8) (by decide) (List.mem_cons_of_mem _ nz_w698) rfl rfl dX8_drawnBy_98 ?_
                refine nz_iload_n (pc := 101) (i := 1) E dX8_drawnBy_101 rfl rfl ?_
                obtain ⟨h58, hf⟩ := nz_chk_t hf
                refine nz_iald (pc := 102) (c := 16) E rfl h58 dX8_drawnBy_102 ?_
                refine nz_goto (pc := 103) (tgt := 107) E dX8_drawnBy_103 (by decide) ?_
                obtain ⟨h59, hf⟩ := nz_chk_t hf
                refine nz_iast (pc := 107) (c := 16) E rfl h59 dX8_drawnBy_107 ?_
                refine nz_iinc (pc := 108) (i := 4) (w := 1) E dX8_drawnBy_108 rfl (by decide) (by decide) rfl ?_
                refine nz_goto (pc := 111) (tgt := 5) E dX8_drawnBy_111 (by decide) ?_
                refine nz_weak (lv' := [(0, .ref (q 0)), (1, .int _), (2, .int _), (3, .int _), (4, .int _)]) ⟨rfl, rfl, rfl, rfl, rfl, trivial⟩ ?_
                exact ih _ _ _ _ hf hK
          · have hf := nz_ite_f hf h38
            refine nz_iconst (pc := 55) (v := 1) E dX8_drawnBy_55 (by decide) ?_
            refine nz_iload (pc := 56) (i := 5) E dX8_drawnBy_56 rfl ?_
            refine nz_ishl (pc := 58) E dX8_drawnBy_58 ?_
            refine nz_goto (pc := 59) (tgt := 63) E dX8_drawnBy_59 (by decide) ?_
            refine nz_ior (pc := 63) E dX8_drawnBy_63 ?_
            refine nz_istore_n (pc := 64) (i := 3) E dX8_drawnBy_64 rfl (by decide) rfl ?_
            refine nz_aload_n (pc := 65) (i := 0) E dX8_drawnBy_65 rfl rfl ?_
            refine nz_getR (pc := 66) (c := 0) (kf := 23) E rfl rfl (nz_upT nz_uX8) (by decide) (List.mem_cons_of_mem _ nz_w699) rfl rfl dX8_drawnBy_66 ?_
            refine nz_iload_n (pc := 69) (i := 1) E dX8_drawnBy_69 rfl rfl ?_
            refine nz_dup2 (pc := 70) E dX8_drawnBy_70 rfl rfl ?_
            obtain ⟨h63, hf⟩ := nz_chk_t hf
            refine nz_iald (pc := 71) (c := 17) E rfl h63 dX8_drawnBy_71 ?_
            refine nz_iload (pc := 72) (i := 6) E dX8_drawnBy_72 rfl ?_
            refine nz_if_eq (pc := 74) (tgt := 81) E dX8_drawnBy_74 (by decide) (fun h64 => ?_) (fun h64 => ?_)
            · have hf := nz_ite_t hf h64
              refine nz_iconst (pc := 81) (v := 1) E dX8_drawnBy_81 (by decide) ?_
              refine nz_iload (pc := 82) (i := 5) E dX8_drawnBy_82 rfl ?_
              refine nz_ishl (pc := 84) E dX8_drawnBy_84 ?_
              refine nz_ior (pc := 85) E dX8_drawnBy_85 ?_
              obtain ⟨h65, hf⟩ := nz_chk_t hf
              refine nz_iast (pc := 86) (c := 17) E rfl h65 dX8_drawnBy_86 ?_
              refine nz_aload_n (pc := 87) (i := 0) E dX8_drawnBy_87 rfl rfl ?_
              refine nz_getR (pc := 88) (c := 0) (kf := 22) E rfl rfl (nz_upT nz_uX8) (by decide) (List.mem_cons_of_mem _ nz_w698) rfl rfl dX8_drawnBy_88 ?_
              refine nz_iload_n (pc := 91) (i := 1) E dX8_drawnBy_91 rfl rfl ?_
              refine nz_iload (pc := 92) (i := 6) E dX8_drawnBy_92 rfl ?_
              refine nz_if_eq (pc := 94) (tgt := 106) E dX8_drawnBy_94 (by decide) (fun h67 => ?_) (fun h67 => ?_)
              · have hf := nz_ite_t hf h67
                refine nz_iconst (pc := 106) (v := 3) E dX8_drawnBy_106 (by decide) ?_
                obtain ⟨h68, hf⟩ := nz_chk_t hf
                refine nz_iast (pc := 107) (c := 16) E rfl h68 dX8_drawnBy_107 ?_
                refine nz_iinc (pc := 108) (i := 4) (w := 1) E dX8_drawnBy_108 rfl (by decide) (by decide) rfl ?_
                refine nz_goto (pc := 111) (tgt := 5) E dX8_drawnBy_111 (by decide) ?_
                refine nz_weak (lv' := [(0, .ref (q 0)), (1, .int _), (2, .int _), (3, .int _), (4, .int _)]) ⟨rfl, rfl, rfl, rfl, rfl, trivial⟩ ?_
                exact ih _ _ _ _ hf hK
              · have hf := nz_ite_f hf h67
                refine nz_aload_n (pc := 97) (i := 0) E dX8_drawnBy_97 rfl rfl ?_
                refine nz_getR (pc := 98) (c := 0) (kf := 22) E rfl rfl (nz_upT nz_uX8) (by decide) (List.mem_cons_of_mem _ nz_w698) rfl rfl dX8_drawnBy_98 ?_
                refine nz_iload_n (pc := 101) (i := 1) E dX8_drawnBy_101 rfl rfl ?_
                obtain ⟨h71, hf⟩ := nz_chk_t hf
                refine nz_iald (pc := 102) (c := 16) E rfl h71 dX8_drawnBy_102 ?_
                refine nz_goto (pc := 103) (tgt := 107) E dX8_drawnBy_103 (by decide) ?_
                obtain ⟨h72, hf⟩ := nz_chk_t hf
                refine nz_iast (pc := 107) (c := 16) E rfl h72 dX8_drawnBy_107 ?_
                refine nz_iinc (pc := 108) (i := 4) (w := 1) E dX8_drawnBy_108 rfl (by decide) (by decide) rfl ?_
                refine nz_goto (pc := 111) (tgt := 5) E dX8_drawnBy_111 (by decide) ?_
                refine nz_weak (lv' := [(0, .ref (q 0)), (1, .int _), (2, .int _), (3, .int _), (4, .int _)]) ⟨rfl, rfl, rfl, rfl, rfl, trivial⟩ ?_
                exact ih _ _ _ _ hf hK
            · have hf := nz_ite_f hf h64
              refine nz_iconst (pc := 77) (v := 0) E dX8_drawnBy_77 (by decide) ?_
              refine nz_goto (pc := 78) (tgt := 85) E dX8_drawnBy_78 (by decide) ?_
              refine nz_ior (pc := 85) E dX8_drawnBy_85 ?_
              obtain ⟨h75, hf⟩ := nz_chk_t hf
              refine nz_iast (pc := 86) (c := 17) E rfl h75 dX8_drawnBy_86 ?_
              refine nz_aload_n (pc := 87) (i := 0) E dX8_drawnBy_87 rfl rfl ?_
              refine nz_getR (pc := 88) (c := 0) (kf := 22) E rfl rfl (nz_upT nz_uX8) (by decide) (List.mem_cons_of_mem _ nz_w698) rfl rfl dX8_drawnBy_88 ?_
              refine nz_iload_n (pc := 91) (i := 1) E dX8_drawnBy_91 rfl rfl ?_
              refine nz_iload (pc := 92) (i := 6) E dX8_drawnBy_92 rfl ?_
              refine nz_if_eq (pc := 94) (tgt := 106) E dX8_drawnBy_94 (by decide) (fun h77 => ?_) (fun h77 => ?_)
              · have hf := nz_ite_t hf h77
                refine nz_iconst (pc := 106) (v := 3) E dX8_drawnBy_106 (by decide) ?_
                obtain ⟨h78, hf⟩ := nz_chk_t hf
                refine nz_iast (pc := 107) (c := 16) E rfl h78 dX8_drawnBy_107 ?_
                refine nz_iinc (pc := 108) (i := 4) (w := 1) E dX8_drawnBy_108 rfl (by decide) (by decide) rfl ?_
                refine nz_goto (pc := 111) (tgt := 5) E dX8_drawnBy_111 (by decide) ?_
                refine nz_weak (lv' := [(0, .ref (q 0)), (1, .int _), (2, .int _), (3, .int _), (4, .int _)]) ⟨rfl, rfl, rfl, rfl, rfl, trivial⟩ ?_
                exact ih _ _ _ _ hf hK
              · have hf := nz_ite_f hf h77
                refine nz_aload_n (pc := 97) (i := 0) E dX8_drawnBy_97 rfl rfl ?_
                refine nz_getR (pc := 98) (c := 0) (kf := 22) E rfl rfl (nz_upT nz_uX8) (by decide) (List.mem_cons_of_mem _ nz_w698) rfl rfl dX8_drawnBy_98 ?_
                refine nz_iload_n (pc := 101) (i := 1) E dX8_drawnBy_101 rfl rfl ?_
                obtain ⟨h81, hf⟩ := nz_chk_t hf
                refine nz_iald (pc := 102) (c := 16) E rfl h81 dX8_drawnBy_102 ?_
                refine nz_goto (pc := 103) (tgt := 107) E dX8_drawnBy_103 (by decide) ?_
                obtain ⟨h82, hf⟩ := nz_chk_t hf
                refine nz_iast (pc := 107) (c := 16) E rfl h82 dX8_drawnBy_107 ?_
                refine nz_iinc (pc := 108) (i := 4) (w := 1) E dX8_drawnBy_108 rfl (by decide) (by decide) rfl ?_
                refine nz_goto (pc := 111) (tgt := 5) E dX8_drawnBy_111 (by decide) ?_
                refine nz_weak (lv' := [(0, .ref (q 0)), (1, .int _), (2, .int _), (3, .int _), (4, .int _)]) ⟨rfl, rfl, rfl, rfl, rfl, trivial⟩ ?_
                exact ih _ _ _ _ hf hK
set_option maxHeartbeats 4000000 in
set_option maxRecDepth 20000 in
theorem k_X8_drawnBy {l : Launch} {w : nz_O} {q : Nat → Nat} (a0 : Int32) (a1 : Int32) (x : nz_S) (o : Int32 × nz_S) (hf : f_X8_drawnBy a0 a1 x = some o) : nz_MI l yX8_drawnBy (nz_T yX8_drawnBy cX8_drawnBy 7 (some .int)) (nz_R 2 47) w q nz_tM [.ref (q 0), .int a0, .int a1] x o := by
  refine nz_enterI (by decide) rfl (Nat.le_of_ble_eq_true rfl) rfl rfl ?_
  intro κ E hw hlq hR
  subst hw; subst hlq
  unfold f_X8_drawnBy at hf
  refine nz_weak (lv' := [(0, .ref (q 0)), (1, .int a0), (2, .int a1)]) ⟨rfl, rfl, rfl, trivial⟩ ?_
  refine nz_iconst (pc := 0) (v := 0) E dX8_drawnBy_0 (by decide) ?_
  refine nz_istore_n (pc := 1) (i := 3) E dX8_drawnBy_1 rfl (by decide) rfl ?_
  refine nz_iconst (pc := 2) (v := 0) E dX8_drawnBy_2 (by decide) ?_
  refine nz_istore (pc := 3) (i := 4) E dX8_drawnBy_3 (by decide) rfl ?_
  refine nz_weak (lv' := [(0, .ref (q 0)), (1, .int _), (2, .int _), (3, .int _), (4, .int _)]) ⟨rfl, rfl, rfl, rfl, rfl, trivial⟩ ?_
  refine w_X8_drawnBy_5 _ _ E hR _ _ _ _ _ hf (fun u86 u87 x85 hf => ?_)
  refine nz_iload_n (pc := 114) (i := 3) E dX8_drawnBy_114 rfl rfl ?_
  exact nz_iret (pc := 115) E hR rfl hf dX8_drawnBy_115
def f_X8_bodyOf_13 (p : Nat) (c2 : Int32) (c3 : Int32) : Nat → Int32 → Int32 → nz_S → (Int32 → Int32 → nz_S → Option (Int32 × nz_S)) → Option (Int32 × nz_S)
  | 0, _, _, _, _ => none
  | fu + 1, w4, w5, x, K =>
  if (12 : Int32) ≤ w5 then
    K w4 w5 x
  else
    nz_bnd (f_X8_has  c3 w5 x) fun r5 x6 =>
    if r5 = (0 : Int32) then
      let v9 : Int32 := (w4 ||| (0 : Int32))
      let v10 : Int32 := w5 + 1
      f_X8_bodyOf_13 p c2 c3 fu v9 v10 x6 K
    else
      nz_bnd (f_X8_leader  w5 x6) fun r11 x12 =>
      if r11 = c2 then
        let v15 : Int32 := (w4 ||| (0 : Int32))
        let v16 : Int32 := w5 + 1
        f_X8_bodyOf_13 p c2 c3 fu v15 v16 x12 K
      else
        nz_bnd (f_X8_leader  w5 x12) fun r17 x18 =>
        let v20 : Int32 := (w4 ||| ((1 : Int32) <<< (r17 &&& 31)))
        let v21 : Int32 := w5 + 1
        f_X8_bodyOf_13 p c2 c3 fu v20 v21 x18 K
def f_X8_bodyOf_99 (p : Nat) (c2 : Int32) (c4 : Int32) (c5 : Int32) : Nat → Int32 → nz_S → (Int32 → nz_S → Option (Int32 × nz_S)) → Option (Int32 × nz_S)
  | 0, _, _, _ => none
  | fu + 1, w6, x, K =>
  nz_bnd (f_X8_has  (c4 &&& (c5 ^^^ (-1 : Int32))) w6 x) fun r30 x31 =>
  if r30 = (0 : Int32) then
    let v34 : Int32 := w6 + 1
    f_X8_bodyOf_99 p c2 c4 c5 fu v34 x31 K
  else
    K w6 x31
def f_X8_bodyOf_89 (p : Nat) (c2 : Int32) : Nat → Int32 → Int32 → nz_S → (Int32 → Int32 → nz_S → Option (Int32 × nz_S)) → Option (Int32 × nz_S)
  | 0, _, _, _, _ => none
  | fu + 1, w4, w5, x, K =>
  if w5 = w4 then
    K w4 w5 x
  else
    f_X8_bodyOf_99 p c2 w4 w5 nz_F (0 : Int32) x fun u36 x35 =>
      let v37 : Int32 := (w5 ||| ((1 : Int32) <<< (u36 &&& 31)))
      nz_bnd (f_X8_drawnBy  c2 u36 x35) fun r38 x39 =>
      let v41 : Int32 := (w4 ||| r38)
      f_X8_bodyOf_89 p c2 fu v41 v37 x39 K
def f_X8_bodyOf (p : Nat) (a0 : Int32) (x : nz_S) : Option (Int32 × nz_S) :=
  nz_bnd (f_X8_backs p a0 x) fun r1 x2 =>
  f_X8_bodyOf_13 p a0 r1 nz_F (0 : Int32) (0 : Int32) x2 fun u23 u24 x22 =>
    if r1 = (0 : Int32) then
      nz_chk (nz_in a0 12) <|
      let x51 : nz_S := nz_put x22 16 (a0).toNatClampNeg (0 : Int32)
      f_X8_bodyOf_89 p a0 nz_F u23 (0 : Int32) x51 fun u53 u54 x52 =>
        some (u53, x52)
    else
      if u23 = (0 : Int32) then
        nz_chk (nz_in a0 12) <|
        let x46 : nz_S := nz_put x22 16 (a0).toNatClampNeg (1 : Int32)
        f_X8_bodyOf_89 p a0 nz_F u23 (0 : Int32) x46 fun u48 u49 x47 =>
          some (u48, x47)
      else
        nz_chk (nz_in a0 12) <|
        let x28 : nz_S := nz_put x22 16 (a0).toNatClampNeg (2 : Int32)
        f_X8_bodyOf_89 p a0 nz_F u23 (0 : Int32) x28 fun u43 u44 x42 =>
          some (u43, x42)
theorem ds_X8_bodyOf : nz_dsc yX8_bodyOf 2 := by unfold nz_dsc; decide +kernel
set_option maxHeartbeats 4000000 in
set_option maxRecDepth 20000 in
theorem w_X8_bodyOf_13 {κ : nz_C} {q : Nat → Nat} {o : Int32 × nz_S} (p : Nat) (hp : nz_isP p) (c2 : Int32) (c3 : Int32) (E : nz_Env κ q nz_tM 7 cX8_bodyOf RX8 (nz_T yX8_bodyOf cX8_bodyOf 7 (some .int)) (nz_R 3 73)) (hR : nz_RI κ q nz_tM .int o) : ∀ (fu : Nat) (w4 : Int32) (w5 : Int32) (x : nz_S) (K : Int32 → Int32 → nz_S → Option (Int32 × nz_S)), f_X8_bodyOf_13 p c2 c3 fu w4 w5 x K = some o → (∀ (w4 : Int32) (w5 : Int32) (x : nz_S), K w4 w5 x = some o → nz_St κ q nz_tM 7 62 [(0, .ref (q 0)), (2, .int c2), (3, .int c3), (4, .int w4), (5, .int w5)] [] x) → nz_St κ q nz_tM 7 13 [(0, .ref (q 0)), (2, .int c2), (3, .int c3), (4, .int w4), (5, .int w5)] [] x := by
  intro fu
  induction fu with
  | zero => intro w4 w5 x K hf; rw [f_X8_bodyOf_13] at hf; cases hf
  | succ fu ih =>
    intro w4 w5 x K hf hK
    rw [f_X8_bodyOf_13] at hf
    refine nz_iload (pc := 13) (i := 5) E dX8_bodyOf_13 rfl ?_
    refine nz_bipush (pc := 15) (v := 12) E dX8_bodyOf_15 (by decide) ?_
    refine nz_icmp_ge (pc := 17) (tgt := 62) E dX8_bodyOf_17 (by decide) (fun h4 => ?_) (fun h4 => ?_)
    · have hf := nz_ite_t hf h4
      refine nz_weak (lv' := [(0, .ref (q 0)), (2, .int _), (3, .int _), (4, .int _), (5, .int _)]) ⟨rfl, rfl, rfl, rfl, rfl, trivial⟩ ?_
      exact hK _ _ _ hf
    · have hf := nz_ite_f hf h4
      refine nz_iload (pc := 20) (i := 4) E dX8_bodyOf_20 rfl ?_
      refine nz_iload_n (pc := 22) (i := 3) E dX8_bodyOf_22 rfl rfl ?_
      refine nz_iload (pc := 23) (i := 5) E dX8_bodyOf_23 rfl ?_
      obtain ⟨r5, x6, h7, hf⟩ := nz_bnd_t hf
      refine nz_callSI (pc := 25) (As := [.int _, .int _]) E (k_X8_has   _ _ _ _ h7) (nz_cwS E nz_w831 nz_w832 nz_w67 nz_w833 ds_X8_has ⟨Nat.le_of_ble_eq_true rfl, Nat.le_of_ble_eq_true rfl⟩ rfl rfl) rfl rfl (Nat.le_of_ble_eq_true rfl) dX8_bodyOf_25 ?_
      refine nz_if_eq (pc := 28) (tgt := 52) E dX8_bodyOf_28 (by decide) (fun h8 => ?_) (fun h8 => ?_)
      · have hf := nz_ite_t hf h8
        refine nz_iconst (pc := 52) (v := 0) E dX8_bodyOf_52 (by decide) ?_
        refine nz_ior (pc := 53) E dX8_bodyOf_53 ?_
        refine nz_istore (pc := 54) (i := 4) E dX8_bodyOf_54 (by decide) rfl ?_
        refine nz_iinc (pc := 56) (i := 5) (w := 1) E dX8_bodyOf_56 rfl (by decide) (by decide) rfl ?_
        refine nz_goto (pc := 59) (tgt := 13) E dX8_bodyOf_59 (by decide) ?_
        refine nz_weak (lv' := [(0, .ref (q 0)), (2, .int _), (3, .int _), (4, .int _), (5, .int _)]) ⟨rfl, rfl, rfl, rfl, rfl, trivial⟩ ?_
        exact ih _ _ _ _ hf hK
      · have hf := nz_ite_f hf h8
        refine nz_aload_n (pc := 31) (i := 0) E dX8_bodyOf_31 rfl rfl ?_
        refine nz_iload (pc := 32) (i := 5) E dX8_bodyOf_32 rfl ?_
        obtain ⟨r11, x12, h13, hf⟩ := nz_bnd_t hf
        refine nz_callVI (pc := 34) (c0 := 0) (As := [.int _]) E rfl rfl (k_X8_leader   _ _ _ h13) (nz_cwV E nz_w834 nz_w836 nz_w31 nz_w67 nz_w837 ds_X8_leader ⟨Nat.le_of_ble_eq_true rfl, Nat.le_of_ble_eq_true rfl⟩ rfl rfl) rfl rfl (Nat.le_of_ble_eq_true rfl) dX8_bodyOf_34 ?_
        refine nz_iload_n (pc := 37) (i := 2) E dX8_bodyOf_37 rfl rfl ?_
        refine nz_icmp_eq (pc := 38) (tgt := 52) E dX8_bodyOf_38 (by decide) (fun h14 => ?_) (fun h14 => ?_)
        · have hf := nz_ite_t hf h14
          refine nz_iconst (pc := 52) (v := 0) E dX8_bodyOf_52 (by decide) ?_
          refine nz_ior (pc := 53) E dX8_bodyOf_53 ?_
          refine nz_istore (pc := 54) (i := 4) E dX8_bodyOf_54 (by decide) rfl ?_
          refine nz_iinc (pc := 56) (i := 5) (w := 1) E dX8_bodyOf_56 rfl (by decide) (by decide) rfl ?_
          refine nz_goto (pc := 59) (tgt := 13) E dX8_bodyOf_59 (by decide) ?_
          refine nz_weak (lv' := [(0, .ref (q 0)), (2, .int _), (3, .int _), (4, .int _), (5, .int _)]) ⟨rfl, rfl, rfl, rfl, rfl, trivial⟩ ?_
          exact ih _ _ _ _ hf hK
        · have hf := nz_ite_f hf h14
          refine nz_iconst (pc := 41) (v := 1) E dX8_bodyOf_41 (by decide) ?_
          refine nz_aload_n (pc := 42) (i := 0) E dX8_bodyOf_42 rfl rfl ?_
          refine nz_iload (pc := 43) (i := 5) E dX8_bodyOf_43 rfl ?_
          obtain ⟨r17, x18, h19, hf⟩ := nz_bnd_t hf
          refine nz_callVI (pc := 45) (c0 := 0) (As := [.int _]) E rfl rfl (k_X8_leader   _ _ _ h19) (nz_cwV E nz_w834 nz_w836 nz_w31 nz_w67 nz_w837 ds_X8_leader ⟨Nat.le_of_ble_eq_true rfl, Nat.le_of_ble_eq_true rfl⟩ rfl rfl) rfl rfl (Nat.le_of_ble_eq_true rfl) dX8_bodyOf_45 ?_
          refine nz_ishl (pc := 48) E dX8_bodyOf_48 ?_
          refine nz_goto (pc := 49) (tgt := 53) E dX8_bodyOf_49 (by decide) ?_
          refine nz_ior (pc := 53) E dX8_bodyOf_53 ?_
          refine nz_istore (pc := 54) (i := 4) E dX8_bodyOf_54 (by decide) rfl ?_
          refine nz_iinc (pc := 56) (i := 5) (w := 1) E dX8_bodyOf_56 rfl (by decide) (by decide) rfl ?_
          refine nz_goto (pc := 59) (tgt := 13) E dX8_bodyOf_59 (by decide) ?_
          refine nz_weak (lv' := [(0, .ref (q 0)), (2, .int _), (3, .int _), (4, .int _), (5, .int _)]) ⟨rfl, rfl, rfl, rfl, rfl, trivial⟩ ?_
          exact ih _ _ _ _ hf hK
set_option maxHeartbeats 4000000 in
set_option maxRecDepth 20000 in
theorem w_X8_bodyOf_99 {κ : nz_C} {q : Nat → Nat} {o : Int32 × nz_S} (p : Nat) (hp : nz_isP p) (c2 : Int32) (c4 : Int32) (c5 : Int32) (E : nz_Env κ q nz_tM 7 cX8_bodyOf RX8 (nz_T yX8_bodyOf cX8_bodyOf 7 (some .int)) (nz_R 3 73)) (hR : nz_RI κ q nz_tM .int o) : ∀ (fu : Nat) (w6 : Int32) (x : nz_S) (K : Int32 → nz_S → Option (Int32 × nz_S)), f_X8_bodyOf_99 p c2 c4 c5 fu w6 x K = some o → (∀ (w6 : Int32) (x : nz_S), K w6 x = some o → nz_St κ q nz_tM 7 120 [(0, .ref (q 0)), (2, .int c2), (4, .int c4), (5, .int c5), (6, .int w6)] [] x) → nz_St κ q nz_tM 7 99 [(0, .ref (q 0)), (2, .int c2), (4, .int c4), (5, .int c5), (6, .int w6)] [] x := by
  intro fu
  induction fu with
  | zero => intro w6 x K hf; rw [f_X8_bodyOf_99] at hf; cases hf
  | succ fu ih =>
    intro w6 x K hf hK
    rw [f_X8_bodyOf_99] at hf
    refine nz_iload (pc := 99) (i := 4) E dX8_bodyOf_99 rfl ?_
    refine nz_iload (pc := 101) (i := 5) E dX8_bodyOf_101 rfl ?_
    refine nz_iconst (pc := 103) (v := -1) E dX8_bodyOf_103 (by decide) ?_
    refine nz_ixor (pc := 104) E dX8_bodyOf_104 ?_
    refine nz_iand (pc := 105) E dX8_bodyOf_105 ?_
    refine nz_iload (pc := 106) (i := 6) E dX8_bodyOf_106 rfl ?_
    obtain ⟨r30, x31, h32, hf⟩ := nz_bnd_t hf
    refine nz_callSI (pc := 108) (As := [.int _, .int _]) E (k_X8_has   _ _ _ _ h32) (nz_cwS E nz_w831 nz_w832 nz_w67 nz_w833 ds_X8_has ⟨Nat.le_of_ble_eq_true rfl, Nat.le_of_ble_eq_true rfl⟩ rfl rfl) rfl rfl (Nat.le_of_ble_eq_true rfl) dX8_bodyOf_108 ?_
    refine nz_if_ne (pc := 111) (tgt := 120) E dX8_bodyOf_111 (by decide) (fun h33 => ?_) (fun h33 => ?_)
    · have hf := nz_ite_f hf h33
      refine nz_weak (lv' := [(0, .ref (q 0)), (2, .int _), (4, .int _), (5, .int _), (6, .int _)]) ⟨rfl, rfl, rfl, rfl, rfl, trivial⟩ ?_
      exact hK _ _ hf
    · have hf := nz_ite_t hf h33
      refine nz_iinc (pc := 114) (i := 6) (w := 1) E dX8_bodyOf_114 rfl (by decide) (by decide) rfl ?_
      refine nz_goto (pc := 117) (tgt := 99) E dX8_bodyOf_117 (by decide) ?_
      refine nz_weak (lv' := [(0, .ref (q 0)), (2, .int _), (4, .int _), (5, .int _), (6, .int _)]) ⟨rfl, rfl, rfl, rfl, rfl, trivial⟩ ?_
      exact ih _ _ _ hf hK
set_option maxHeartbeats 4000000 in
set_option maxRecDepth 20000 in
theorem w_X8_bodyOf_89 {κ : nz_C} {q : Nat → Nat} {o : Int32 × nz_S} (p : Nat) (hp : nz_isP p) (c2 : Int32) (E : nz_Env κ q nz_tM 7 cX8_bodyOf RX8 (nz_T yX8_bodyOf cX8_bodyOf 7 (some .int)) (nz_R 3 73)) (hR : nz_RI κ q nz_tM .int o) : ∀ (fu : Nat) (w4 : Int32) (w5 : Int32) (x : nz_S) (K : Int32 → Int32 → nz_S → Option (Int32 × nz_S)), f_X8_bodyOf_89 p c2 fu w4 w5 x K = some o → (∀ (w4 : Int32) (w5 : Int32) (x : nz_S), K w4 w5 x = some o → nz_St κ q nz_tM 7 144 [(0, .ref (q 0)), (2, .int c2), (4, .int w4), (5, .int w5)] [] x) → nz_St κ q nz_tM 7 89 [(0, .ref (q 0)), (2, .int c2), (4, .int w4), (5, .int w5)] [] x := by
  intro fu
  induction fu with
  | zero => intro w4 w5 x K hf; rw [f_X8_bodyOf_89] at hf; cases hf
  | succ fu ih =>
    intro w4 w5 x K hf hK
    rw [f_X8_bodyOf_89] at hf
    refine nz_iload (pc := 89) (i := 5) E dX8_bodyOf_89 rfl ?_
    refine nz_iload (pc := 91) (i := 4) E dX8_bodyOf_91 rfl ?_
    refine nz_icmp_eq (pc := 93) (tgt := 144) E dX8_bodyOf_93 (by decide) (fun h29 => ?_) (fun h29 => ?_)
    · have hf := nz_ite_t hf h29
      refine nz_weak (lv' := [(0, .ref (q 0)), (2, .int _), (4, .int _), (5, .int _)]) ⟨rfl, rfl, rfl, rfl, trivial⟩ ?_
      exact hK _ _ _ hf
    · have hf := nz_ite_f hf h29
      refine nz_iconst (pc := 96) (v := 0) E dX8_bodyOf_96 (by decide) ?_
      refine nz_istore (pc := 97) (i := 6) E dX8_bodyOf_97 (by decide) rfl ?_
      refine nz_weak (lv' := [(0, .ref (q 0)), (2, .int _), (4, .int _), (5, .int _), (6, .int _)]) ⟨rfl, rfl, rfl, rfl, rfl, trivial⟩ ?_
      refine w_X8_bodyOf_99 p hp _ _ _ E hR _ _ _ _ hf (fun u36 x35 hf => ?_)
      refine nz_iload (pc := 120) (i := 5) E dX8_bodyOf_120 rfl ?_
      refine nz_iconst (pc := 122) (v := 1) E dX8_bodyOf_122 (by decide) ?_
      refine nz_iload (pc := 123) (i := 6) E dX8_bodyOf_123 rfl ?_
      refine nz_ishl (pc := 125) E dX8_bodyOf_125 ?_
      refine nz_ior (pc := 126) E dX8_bodyOf_126 ?_
      refine nz_istore (pc := 127) (i := 5) E dX8_bodyOf_127 (by decide) rfl ?_
      refine nz_iload (pc := 129) (i := 4) E dX8_bodyOf_129 rfl ?_
      refine nz_aload_n (pc := 131) (i := 0) E dX8_bodyOf_131 rfl rfl ?_
      refine nz_iload_n (pc := 132) (i := 2) E dX8_bodyOf_132 rfl rfl ?_
      refine nz_iload (pc := 133) (i := 6) E dX8_bodyOf_133 rfl ?_
      obtain ⟨r38, x39, h40, hf⟩ := nz_bnd_t hf
      refine nz_callVI (pc := 135) (c0 := 0) (As := [.int _, .int _]) E rfl rfl (k_X8_drawnBy   _ _ _ _ h40) (nz_cwV E nz_w838 nz_w840 nz_w32 nz_w67 nz_w841 ds_X8_drawnBy ⟨Nat.le_of_ble_eq_true rfl, Nat.le_of_ble_eq_true rfl⟩ rfl rfl) rfl rfl (Nat.le_of_ble_eq_true rfl) dX8_bodyOf_135 ?_
      refine nz_ior (pc := 138) E dX8_bodyOf_138 ?_
      refine nz_istore (pc := 139) (i := 4) E dX8_bodyOf_139 (by decide) rfl ?_
      refine nz_goto (pc := 141) (tgt := 89) E dX8_bodyOf_141 (by decide) ?_
      refine nz_weak (lv' := [(0, .ref (q 0)), (2, .int _), (4, .int _), (5, .int _)]) ⟨rfl, rfl, rfl, rfl, trivial⟩ ?_
      exact ih _ _ _ _ hf hK
set_option maxHeartbeats 4000000 in
set_option maxRecDepth 20000 in
theorem k_X8_bodyOf {l : Launch} {w : nz_O} {q : Nat → Nat} (p : Nat) (hp : nz_isP p) (a0 : Int32) (x : nz_S) (o : Int32 × nz_S) (hf : f_X8_bodyOf p a0 x = some o) : nz_MI l yX8_bodyOf (nz_T yX8_bodyOf cX8_bodyOf 7 (some .int)) (nz_R 3 73) w q nz_tM [.ref (q 0), .ref (q p), .int a0] x o := by
  refine nz_enterI (by decide) rfl (Nat.le_of_ble_eq_true rfl) rfl rfl ?_
  intro κ E hw hlq hR
  subst hw; subst hlq
  unfold f_X8_bodyOf at hf
  refine nz_weak (lv' := [(0, .ref (q 0)), (1, .ref (q p)), (2, .int a0)]) ⟨rfl, rfl, rfl, trivial⟩ ?_
  refine nz_aload_n (pc := 0) (i := 0) E dX8_bodyOf_0 rfl rfl ?_
  refine nz_aload_n (pc := 1) (i := 1) E dX8_bodyOf_1 rfl rfl ?_
  refine nz_iload_n (pc := 2) (i := 2) E dX8_bodyOf_2 rfl rfl ?_
  obtain ⟨r1, x2, h3, hf⟩ := nz_bnd_t hf
  refine nz_callVI (pc := 3) (c0 := 0) (As := [.ref (q p), .int _]) E rfl rfl (k_X8_backs p hp _ _ _ h3) (nz_cwV E nz_w827 nz_w829 nz_w30 nz_w67 nz_w830 ds_X8_backs ⟨Nat.le_of_ble_eq_true rfl, Nat.le_of_ble_eq_true rfl⟩ rfl rfl) rfl rfl (Nat.le_of_ble_eq_true rfl) dX8_bodyOf_3 ?_
  refine nz_istore_n (pc := 6) (i := 3) E dX8_bodyOf_6 rfl (by decide) rfl ?_
  refine nz_iconst (pc := 7) (v := 0) E dX8_bodyOf_7 (by decide) ?_
  refine nz_istore (pc := 8) (i := 4) E dX8_bodyOf_8 (by decide) rfl ?_
  refine nz_iconst (pc := 10) (v := 0) E dX8_bodyOf_10 (by decide) ?_
  refine nz_istore (pc := 11) (i := 5) E dX8_bodyOf_11 (by decide) rfl ?_
  refine nz_weak (lv' := [(0, .ref (q 0)), (2, .int _), (3, .int _), (4, .int _), (5, .int _)]) ⟨rfl, rfl, rfl, rfl, rfl, trivial⟩ ?_
  refine w_X8_bodyOf_13 p hp _ _ E hR _ _ _ _ _ hf (fun u23 u24 x22 hf => ?_)
  refine nz_aload_n (pc := 62) (i := 0) E dX8_bodyOf_62 rfl rfl ?_
  refine nz_getR (pc := 63) (c := 0) (kf := 22) E rfl rfl (nz_upT nz_uX8) (by decide) (List.mem_cons_of_mem _ nz_w698) rfl rfl dX8_bodyOf_63 ?_
  refine nz_iload_n (pc := 66) (i := 2) E dX8_bodyOf_66 rfl rfl ?_
  refine nz_iload_n (pc := 67) (i := 3) E dX8_bodyOf_67 rfl rfl ?_
  refine nz_if_ne (pc := 68) (tgt := 75) E dX8_bodyOf_68 (by decide) (fun h25 => ?_) (fun h25 => ?_)
  · have hf := nz_ite_f hf h25
    refine nz_iload (pc := 75) (i := 4) E dX8_bodyOf_75 rfl ?_
    refine nz_if_ne (pc := 77) (tgt := 84) E dX8_bodyOf_77 (by decide) (fun h26 => ?_) (fun h26 => ?_)
    · have hf := nz_ite_f hf h26
      refine nz_iconst (pc := 84) (v := 2) E dX8_bodyOf_84 (by decide) ?_
      obtain ⟨h27, hf⟩ := nz_chk_t hf
      refine nz_iast (pc := 85) (c := 16) E rfl h27 dX8_bodyOf_85 ?_
      refine nz_iconst (pc := 86) (v := 0) E dX8_bodyOf_86 (by decide) ?_
      refine nz_istore (pc := 87) (i := 5) E dX8_bodyOf_87 (by decide) rfl ?_
      refine nz_weak (lv' := [(0, .ref (q 0)), (2, .int _), (4, .int _), (5, .int _)]) ⟨rfl, rfl, rfl, rfl, trivial⟩ ?_
      refine w_X8_bodyOf_89 p hp _ E hR _ _ _ _ _ hf (fun u43 u44 x42 hf => ?_)
      refine nz_iload (pc := 144) (i := 4) E dX8_bodyOf_144 rfl ?_
      exact nz_iret (pc := 146) E hR rfl hf dX8_bodyOf_146
    · have hf := nz_ite_t hf h26
      refine nz_iconst (pc := 80) (v := 1) E dX8_bodyOf_80 (by decide) ?_
      refine nz_goto (pc := 81) (tgt := 85) E dX8_bodyOf_81 (by decide) ?_
      obtain ⟨h45, hf⟩ := nz_chk_t hf
      refine nz_iast (pc := 85) (c := 16) E rfl h45 dX8_bodyOf_85 ?_
      refine nz_iconst (pc := 86) (v := 0) E dX8_bodyOf_86 (by decide) ?_
      refine nz_istore (pc := 87) (i := 5) E dX8_bodyOf_87 (by decide) rfl ?_
      refine nz_weak (lv' := [(0, .ref (q 0)), (2, .int _), (4, .int _), (5, .int _)]) ⟨rfl, rfl, rfl, rfl, trivial⟩ ?_
      refine w_X8_bodyOf_89 p hp _ E hR _ _ _ _ _ hf (fun u48 u49 x47 hf => ?_)
      refine nz_iload (pc := 144) (i := 4) E dX8_bodyOf_144 rfl ?_
      exact nz_iret (pc := 146) E hR rfl hf dX8_bodyOf_146
  · have hf := nz_ite_t hf h25
    refine nz_iconst (pc := 71) (v := 0) E dX8_bodyOf_71 (by decide) ?_
    refine nz_goto (pc := 72) (tgt := 85) E dX8_bodyOf_72 (by decide) ?_
    obtain ⟨h50, hf⟩ := nz_chk_t hf
    refine nz_iast (pc := 85) (c := 16) E rfl h50 dX8_bodyOf_85 ?_
    refine nz_iconst (pc := 86) (v := 0) E dX8_bodyOf_86 (by decide) ?_
    refine nz_istore (pc := 87) (i := 5) E dX8_bodyOf_87 (by decide) rfl ?_
    refine nz_weak (lv' := [(0, .ref (q 0)), (2, .int _), (4, .int _), (5, .int _)]) ⟨rfl, rfl, rfl, rfl, trivial⟩ ?_
    refine w_X8_bodyOf_89 p hp _ E hR _ _ _ _ _ hf (fun u53 u54 x52 hf => ?_)
    refine nz_iload (pc := 144) (i := 4) E dX8_bodyOf_144 rfl ?_
    exact nz_iret (pc := 146) E hR rfl hf dX8_bodyOf_146
def f_X8_find_23 (p : Nat) (c2 : Int32) : Nat → Int32 → nz_S → (Int32 → nz_S → Option (Unit × nz_S)) → Option (Unit × nz_S)
  | 0, _, _, _ => none
  | fu + 1, w3, x, K =>
  nz_chk (nz_in w3 12) <|
  if (x.1 11 (w3).toNatClampNeg) = c2 then
    K w3 x
  else
    let v11 : Int32 := w3 + 1
    f_X8_find_23 p c2 fu v11 x K
def f_X8_find_50 (p : Nat) (c2 : Int32) (c3 : Int32) (c4 : Int32) : Nat → Int32 → nz_S → (Int32 → nz_S → Option (Unit × nz_S)) → Option (Unit × nz_S)
  | 0, _, _, _ => none
  | fu + 1, w5, x, K =>
  if (12 : Int32) ≤ w5 then
    K w5 x
  else
    nz_bnd (f_X8_has  c4 w5 x) fun r18 x19 =>
    if r18 = (0 : Int32) then
      nz_chk (nz_in w5 12) <|
      nz_chk (nz_in w5 12) <|
      let x24 : nz_S := nz_put x19 15 (w5).toNatClampNeg (x19.1 15 (w5).toNatClampNeg)
      let v25 : Int32 := w5 + 1
      f_X8_find_50 p c2 c3 c4 fu v25 x24 K
    else
      nz_chk (nz_in w5 12) <|
      let x27 : nz_S := nz_put x19 15 (w5).toNatClampNeg c3
      let v28 : Int32 := w5 + 1
      f_X8_find_50 p c2 c3 c4 fu v28 x27 K
def f_X8_find_17 (p : Nat) : Nat → Int32 → nz_S → (Int32 → nz_S → Option (Unit × nz_S)) → Option (Unit × nz_S)
  | 0, _, _, _ => none
  | fu + 1, w2, x, K =>
  if w2 < (0 : Int32) then
    K w2 x
  else
    f_X8_find_23 p w2 nz_F (0 : Int32) x fun u13 x12 =>
      nz_bnd (f_X8_bodyOf p u13 x12) fun r14 x15 =>
      f_X8_find_50 p w2 u13 r14 nz_F (0 : Int32) x15 fun u30 x29 =>
        let v31 : Int32 := w2 + (-1)
        f_X8_find_17 p fu v31 x29 K
def f_X8_find (p : Nat) (x : nz_S) : Option (Unit × nz_S) :=
  nz_bnd (f_X8_walk p  x) fun r1 x2 =>
  nz_bnd (f_X8_layEntries p  x2) fun r4 x5 =>
  let v7 : Int32 := ((x5.1 0 16) - (1 : Int32))
  f_X8_find_17 p nz_F v7 x5 fun u33 x32 =>
    some ((), x32)
theorem ds_X8_find : nz_dsc yX8_find 1 := by unfold nz_dsc; decide +kernel
set_option maxHeartbeats 4000000 in
set_option maxRecDepth 20000 in
theorem w_X8_find_23 {κ : nz_C} {q : Nat → Nat} {o : Unit × nz_S} (p : Nat) (hp : nz_isP p) (c2 : Int32) (E : nz_Env κ q nz_tM 6 cX8_find RX8 (nz_T yX8_find cX8_find 6 (none)) (nz_R 4 99)) (hR : nz_RV κ q nz_tM o) : ∀ (fu : Nat) (w3 : Int32) (x : nz_S) (K : Int32 → nz_S → Option (Unit × nz_S)), f_X8_find_23 p c2 fu w3 x K = some o → (∀ (w3 : Int32) (x : nz_S), K w3 x = some o → nz_St κ q nz_tM 6 39 [(0, .ref (q 0)), (1, .ref (q p)), (2, .int c2), (3, .int w3)] [] x) → nz_St κ q nz_tM 6 23 [(0, .ref (q 0)), (1, .ref (q p)), (2, .int c2), (3, .int w3)] [] x := by
  intro fu
  induction fu with
  | zero => intro w3 x K hf; rw [f_X8_find_23] at hf; cases hf
  | succ fu ih =>
    intro w3 x K hf hK
    rw [f_X8_find_23] at hf
    refine nz_aload_n (pc := 23) (i := 0) E dX8_find_23 rfl rfl ?_
    refine nz_getR (pc := 24) (c := 0) (kf := 17) E rfl rfl (nz_upT nz_uX8) (by decide) (List.mem_cons_of_mem _ nz_w693) rfl rfl dX8_find_24 ?_
    refine nz_iload_n (pc := 27) (i := 3) E dX8_find_27 rfl rfl ?_
    obtain ⟨h9, hf⟩ := nz_chk_t hf
    refine nz_iald (pc := 28) (c := 11) E rfl h9 dX8_find_28 ?_
    refine nz_iload_n (pc := 29) (i := 2) E dX8_find_29 rfl rfl ?_
    refine nz_icmp_eq (pc := 30) (tgt := 39) E dX8_find_30 (by decide) (fun h10 => ?_) (fun h10 => ?_)
    · have hf := nz_ite_t hf h10
      refine nz_weak (lv' := [(0, .ref (q 0)), (1, .ref (q p)), (2, .int _), (3, .int _)]) ⟨rfl, rfl, rfl, rfl, trivial⟩ ?_
      exact hK _ _ hf
    · have hf := nz_ite_f hf h10
      refine nz_iinc (pc := 33) (i := 3) (w := 1) E dX8_find_33 rfl (by decide) (by decide) rfl ?_
      refine nz_goto (pc := 36) (tgt := 23) E dX8_find_36 (by decide) ?_
      refine nz_weak (lv' := [(0, .ref (q 0)), (1, .ref (q p)), (2, .int _), (3, .int _)]) ⟨rfl, rfl, rfl, rfl, trivial⟩ ?_
      exact ih _ _ _ hf hK
set_option maxHeartbeats 4000000 in
set_option maxRecDepth 20000 in
theorem w_X8_find_50 {κ : nz_C} {q : Nat → Nat} {o : Unit × nz_S} (p : Nat) (hp : nz_isP p) (c2 : Int32) (c3 : Int32) (c4 : Int32) (E : nz_Env κ q nz_tM 6 cX8_find RX8 (nz_T yX8_find cX8_find 6 (none)) (nz_R 4 99)) (hR : nz_RV κ q nz_tM o) : ∀ (fu : Nat) (w5 : Int32) (x : nz_S) (K : Int32 → nz_S → Option (Unit × nz_S)), f_X8_find_50 p c2 c3 c4 fu w5 x K = some o → (∀ (w5 : Int32) (x : nz_S), K w5 x = some o → nz_St κ q nz_tM 6 91 [(0, .ref (q 0)), (1, .ref (q p)), (2, .int c2), (3, .int c3), (4, .int c4), (5, .int w5)] [] x) → nz_St κ q nz_tM 6 50 [(0, .ref (q 0)), (1, .ref (q p)), (2, .int c2), (3, .int c3), (4, .int c4), (5, .int w5)] [] x := by
  intro fu
  induction fu with
  | zero => intro w5 x K hf; rw [f_X8_find_50] at hf; cases hf
  | succ fu ih =>
    intro w5 x K hf hK
    rw [f_X8_find_50] at hf
    refine nz_iload (pc := 50) (i := 5) E dX8_find_50 rfl ?_
    refine nz_bipush (pc := 52) (v := 12) E dX8_find_52 (by decide) ?_
    refine nz_icmp_ge (pc := 54) (tgt := 91) E dX8_find_54 (by decide) (fun h17 => ?_) (fun h17 => ?_)
    · have hf := nz_ite_t hf h17
      refine nz_weak (lv' := [(0, .ref (q 0)), (1, .ref (q p)), (2, .int _), (3, .int _), (4, .int _), (5, .int _)]) ⟨rfl, rfl, rfl, rfl, rfl, rfl, trivial⟩ ?_
      exact hK _ _ hf
    · have hf := nz_ite_f hf h17
      refine nz_aload_n (pc := 57) (i := 0) E dX8_find_57 rfl rfl ?_
      refine nz_getR (pc := 58) (c := 0) (kf := 21) E rfl rfl (nz_upT nz_uX8) (by decide) (List.mem_cons_of_mem _ nz_w697) rfl rfl dX8_find_58 ?_
      refine nz_iload (pc := 61) (i := 5) E dX8_find_61 rfl ?_
      refine nz_iload (pc := 63) (i := 4) E dX8_find_63 rfl ?_
      refine nz_iload (pc := 65) (i := 5) E dX8_find_65 rfl ?_
      obtain ⟨r18, x19, h20, hf⟩ := nz_bnd_t hf
      refine nz_callSI (pc := 67) (As := [.int _, .int _]) E (k_X8_has   _ _ _ _ h20) (nz_cwS E nz_w831 nz_w832 nz_w67 nz_w833 ds_X8_has ⟨Nat.le_of_ble_eq_true rfl, Nat.le_of_ble_eq_true rfl⟩ rfl rfl) rfl rfl (Nat.le_of_ble_eq_true rfl) dX8_find_67 ?_
      refine nz_if_eq (pc := 70) (tgt := 77) E dX8_find_70 (by decide) (fun h21 => ?_) (fun h21 => ?_)
      · have hf := nz_ite_t hf h21
        refine nz_aload_n (pc := 77) (i := 0) E dX8_find_77 rfl rfl ?_
        refine nz_getR (pc := 78) (c := 0) (kf := 21) E rfl rfl (nz_upT nz_uX8) (by decide) (List.mem_cons_of_mem _ nz_w697) rfl rfl dX8_find_78 ?_
        refine nz_iload (pc := 81) (i := 5) E dX8_find_81 rfl ?_
        obtain ⟨h22, hf⟩ := nz_chk_t hf
        refine nz_iald (pc := 83) (c := 15) E rfl h22 dX8_find_83 ?_
        obtain ⟨h23, hf⟩ := nz_chk_t hf
        refine nz_iast (pc := 84) (c := 15) E rfl h23 dX8_find_84 ?_
        refine nz_iinc (pc := 85) (i := 5) (w := 1) E dX8_find_85 rfl (by decide) (by decide) rfl ?_
        refine nz_goto (pc := 88) (tgt := 50) E dX8_find_88 (by decide) ?_
        refine nz_weak (lv' := [(0, .ref (q 0)), (1, .ref (q p)), (2, .int _), (3, .int _), (4, .int _), (5, .int _)]) ⟨rfl, rfl, rfl, rfl, rfl, rfl, trivial⟩ ?_
        exact ih _ _ _ hf hK
      · have hf := nz_ite_f hf h21
        refine nz_iload_n (pc := 73) (i := 3) E dX8_find_73 rfl rfl ?_
        refine nz_goto (pc := 74) (tgt := 84) E dX8_find_74 (by decide) ?_
        obtain ⟨h26, hf⟩ := nz_chk_t hf
        refine nz_iast (pc := 84) (c := 15) E rfl h26 dX8_find_84 ?_
        refine nz_iinc (pc := 85) (i := 5) (w := 1) E dX8_find_85 rfl (by decide) (by decide) rfl ?_
        refine nz_goto (pc := 88) (tgt := 50) E dX8_find_88 (by decide) ?_
        refine nz_weak (lv' := [(0, .ref (q 0)), (1, .ref (q p)), (2, .int _), (3, .int _), (4, .int _), (5, .int _)]) ⟨rfl, rfl, rfl, rfl, rfl, rfl, trivial⟩ ?_
        exact ih _ _ _ hf hK
set_option maxHeartbeats 4000000 in
set_option maxRecDepth 20000 in
theorem w_X8_find_17 {κ : nz_C} {q : Nat → Nat} {o : Unit × nz_S} (p : Nat) (hp : nz_isP p) (E : nz_Env κ q nz_tM 6 cX8_find RX8 (nz_T yX8_find cX8_find 6 (none)) (nz_R 4 99)) (hR : nz_RV κ q nz_tM o) : ∀ (fu : Nat) (w2 : Int32) (x : nz_S) (K : Int32 → nz_S → Option (Unit × nz_S)), f_X8_find_17 p fu w2 x K = some o → (∀ (w2 : Int32) (x : nz_S), K w2 x = some o → nz_St κ q nz_tM 6 97 [(0, .ref (q 0)), (1, .ref (q p)), (2, .int w2)] [] x) → nz_St κ q nz_tM 6 17 [(0, .ref (q 0)), (1, .ref (q p)), (2, .int w2)] [] x := by
  intro fu
  induction fu with
  | zero => intro w2 x K hf; rw [f_X8_find_17] at hf; cases hf
  | succ fu ih =>
    intro w2 x K hf hK
    rw [f_X8_find_17] at hf
    refine nz_iload_n (pc := 17) (i := 2) E dX8_find_17 rfl rfl ?_
    refine nz_if_lt (pc := 18) (tgt := 97) E dX8_find_18 (by decide) (fun h8 => ?_) (fun h8 => ?_)
    · have hf := nz_ite_t hf h8
      refine nz_weak (lv' := [(0, .ref (q 0)), (1, .ref (q p)), (2, .int _)]) ⟨rfl, rfl, rfl, trivial⟩ ?_
      exact hK _ _ hf
    · have hf := nz_ite_f hf h8
      refine nz_iconst (pc := 21) (v := 0) E dX8_find_21 (by decide) ?_
      refine nz_istore_n (pc := 22) (i := 3) E dX8_find_22 rfl (by decide) rfl ?_
      refine nz_weak (lv' := [(0, .ref (q 0)), (1, .ref (q p)), (2, .int _), (3, .int _)]) ⟨rfl, rfl, rfl, rfl, trivial⟩ ?_
      refine w_X8_find_23 p hp _ E hR _ _ _ _ hf (fun u13 x12 hf => ?_)
      refine nz_aload_n (pc := 39) (i := 0) E dX8_find_39 rfl rfl ?_
      refine nz_aload_n (pc := 40) (i := 1) E dX8_find_40 rfl rfl ?_
      refine nz_iload_n (pc := 41) (i := 3) E dX8_find_41 rfl rfl ?_
      obtain ⟨r14, x15, h16, hf⟩ := nz_bnd_t hf
      refine nz_callVI (pc := 42) (c0 := 0) (As := [.ref (q p), .int _]) E rfl rfl (k_X8_bodyOf p hp _ _ _ h16) (nz_cwV E nz_w823 nz_w825 nz_w29 nz_w67 nz_w826 ds_X8_bodyOf ⟨Nat.le_of_ble_eq_true rfl, Nat.le_of_ble_eq_true rfl⟩ rfl rfl) rfl rfl (Nat.le_of_ble_eq_true rfl) dX8_find_42 ?_
      refine nz_istore (pc := 45) (i := 4) E dX8_find_45 (by decide) rfl ?_
      refine nz_iconst (pc := 47) (v := 0) E dX8_find_47 (by decide) ?_
      refine nz_istore (pc := 48) (i := 5) E dX8_find_48 (by decide) rfl ?_
      refine nz_weak (lv' := [(0, .ref (q 0)), (1, .ref (q p)), (2, .int _), (3, .int _), (4, .int _), (5, .int _)]) ⟨rfl, rfl, rfl, rfl, rfl, rfl, trivial⟩ ?_
      refine w_X8_find_50 p hp _ _ _ E hR _ _ _ _ hf (fun u30 x29 hf => ?_)
      refine nz_iinc (pc := 91) (i := 2) (w := -1) E dX8_find_91 rfl (by decide) (by decide) rfl ?_
      refine nz_goto (pc := 94) (tgt := 17) E dX8_find_94 (by decide) ?_
      refine nz_weak (lv' := [(0, .ref (q 0)), (1, .ref (q p)), (2, .int _)]) ⟨rfl, rfl, rfl, trivial⟩ ?_
      exact ih _ _ _ hf hK
set_option maxHeartbeats 4000000 in
set_option maxRecDepth 20000 in
theorem k_X8_find {l : Launch} {w : nz_O} {q : Nat → Nat} (p : Nat) (hp : nz_isP p) (x : nz_S) (o : Unit × nz_S) (hf : f_X8_find p x = some o) : nz_MV l yX8_find (nz_T yX8_find cX8_find 6 (none)) (nz_R 4 99) w q nz_tM [.ref (q 0), .ref (q p)] x o := by
  refine nz_enterV (by decide) rfl (Nat.le_of_ble_eq_true rfl) rfl rfl ?_
  intro κ E hw hlq hR
  subst hw; subst hlq
  unfold f_X8_find at hf
  refine nz_weak (lv' := [(0, .ref (q 0)), (1, .ref (q p))]) ⟨rfl, rfl, trivial⟩ ?_
  refine nz_aload_n (pc := 0) (i := 0) E dX8_find_0 rfl rfl ?_
  refine nz_aload_n (pc := 1) (i := 1) E dX8_find_1 rfl rfl ?_
  obtain ⟨r1, x2, h3, hf⟩ := nz_bnd_t hf
  refine nz_callVV (pc := 2) (c0 := 0) (As := [.ref (q p)]) E rfl rfl (k_X8_walk p hp _ _ h3) (nz_cwV E nz_w804 nz_w806 nz_w25 nz_w67 nz_w807 ds_X8_walk ⟨Nat.le_of_ble_eq_true rfl, Nat.le_of_ble_eq_true rfl⟩ rfl rfl) rfl rfl (Nat.le_of_ble_eq_true rfl) dX8_find_2 ?_
  refine nz_aload_n (pc := 5) (i := 0) E dX8_find_5 rfl rfl ?_
  refine nz_aload_n (pc := 6) (i := 1) E dX8_find_6 rfl rfl ?_
  obtain ⟨r4, x5, h6, hf⟩ := nz_bnd_t hf
  refine nz_callVV (pc := 7) (c0 := 0) (As := [.ref (q p)]) E rfl rfl (k_X8_layEntries p hp _ _ h6) (nz_cwV E nz_w812 nz_w814 nz_w27 nz_w67 nz_w815 ds_X8_layEntries ⟨Nat.le_of_ble_eq_true rfl, Nat.le_of_ble_eq_true rfl⟩ rfl rfl) rfl rfl (Nat.le_of_ble_eq_true rfl) dX8_find_7 ?_
  refine nz_aload_n (pc := 10) (i := 0) E dX8_find_10 rfl rfl ?_
  refine nz_getI (pc := 11) (c := 0) (kf := 16) E rfl rfl (nz_upT nz_uX8) (by decide) (List.mem_cons_of_mem _ nz_w692) rfl rfl dX8_find_11 ?_
  refine nz_iconst (pc := 14) (v := 1) E dX8_find_14 (by decide) ?_
  refine nz_isub (pc := 15) E dX8_find_15 ?_
  refine nz_istore_n (pc := 16) (i := 2) E dX8_find_16 rfl (by decide) rfl ?_
  refine nz_weak (lv' := [(0, .ref (q 0)), (1, .ref (q p)), (2, .int _)]) ⟨rfl, rfl, rfl, trivial⟩ ?_
  refine w_X8_find_17 p hp E hR _ _ _ _ hf (fun u33 x32 hf => ?_)
  exact nz_vret (pc := 97) E hR hf dX8_find_97
