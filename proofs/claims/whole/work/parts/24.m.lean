def f_X8_comes_3 (p : Nat) (c2 : Int32) (c3 : Int32) : Nat → Int32 → nz_S → (Int32 → nz_S → Option (Int32 × nz_S)) → Option (Int32 × nz_S)
  | 0, _, _, _ => none
  | fu + 1, w4, x, K =>
  nz_chk (nz_in (0 : Int32) 61) <|
  if (x.1 p ((0 : Int32)).toNatClampNeg) ≤ w4 then
    K w4 x
  else
    nz_chk (nz_in w4 12) <|
    if (x.1 11 (w4).toNatClampNeg) = (-9 : Int32) then
      let v5 : Int32 := w4 + 1
      f_X8_comes_3 p c2 c3 fu v5 x K
    else
      nz_bnd (f_X8_has  c2 w4 x) fun r6 x7 =>
      if r6 = (0 : Int32) then
        nz_bnd (f_X8_goes p w4 c3 x7) fun r11 x12 =>
        if r11 = (0 : Int32) then
          let v15 : Int32 := w4 + 1
          f_X8_comes_3 p c2 c3 fu v15 x12 K
        else
          some (w4, x12)
      else
        let v10 : Int32 := w4 + 1
        f_X8_comes_3 p c2 c3 fu v10 x7 K
def f_X8_comes (p : Nat) (a0 : Int32) (a1 : Int32) (x : nz_S) : Option (Int32 × nz_S) :=
  f_X8_comes_3 p a0 a1 nz_F (0 : Int32) x fun u17 x16 =>
    some ((-9 : Int32), x16)
theorem ds_X8_comes : nz_dsc yX8_comes 3 := by unfold nz_dsc; decide +kernel
set_option maxHeartbeats 4000000 in
set_option maxRecDepth 20000 in
theorem w_X8_comes_3 {κ : nz_C} {q : Nat → Nat} {o : Int32 × nz_S} (p : Nat) (hp : nz_isP p) (c2 : Int32) (c3 : Int32) (E : nz_Env κ q nz_tM 5 cX8_comes RX8 (nz_T yX8_comes cX8_comes 5 (some .int)) (nz_R 1 24)) (hR : nz_RI κ q nz_tM .int o) : ∀ (fu : Nat) (w4 : Int32) (x : nz_S) (K : Int32 → nz_S → Option (Int32 × nz_S)), f_X8_comes_3 p c2 c3 fu w4 x K = some o → (∀ (w4 : Int32) (x : nz_S), K w4 x = some o → nz_St κ q nz_tM 5 51 [(0, .ref (q 0)), (1, .ref (q p)), (2, .int c2), (3, .int c3), (4, .int w4)] [] x) → nz_St κ q nz_tM 5 3 [(0, .ref (q 0)), (1, .ref (q p)), (2, .int c2), (3, .int c3), (4, .int w4)] [] x := by
  intro fu
  induction fu with
  | zero => intro w4 x K hf; rw [f_X8_comes_3] at hf; cases hf
  | succ fu ih =>
    intro w4 x K hf hK
    rw [f_X8_comes_3] at hf
    refine nz_iload (pc := 3) (i := 4) E dX8_comes_3 rfl ?_
    refine nz_aload_n (pc := 5) (i := 1) E dX8_comes_5 rfl rfl ?_
    refine nz_iconst (pc := 6) (v := 0) E dX8_comes_6 (by decide) ?_
    obtain ⟨h1, hf⟩ := nz_chk_t hf
    refine nz_iald (pc := 7) (c := p) E hp h1 dX8_comes_7 ?_
    refine nz_icmp_ge (pc := 8) (tgt := 51) E dX8_comes_8 (by decide) (fun h2 => ?_) (fun h2 => ?_)
    · have hf := nz_ite_t hf h2
      refine nz_weak (lv' := [(0, .ref (q 0)), (1, .ref (q p)), (2, .int _), (3, .int _), (4, .int _)]) ⟨rfl, rfl, rfl, rfl, rfl, trivial⟩ ?_
      exact hK _ _ hf
    · have hf := nz_ite_f hf h2
      refine nz_aload_n (pc := 11) (i := 0) E dX8_comes_11 rfl rfl ?_
      refine nz_getR (pc := 12) (c := 0) (kf := 17) E rfl rfl (nz_upT nz_uX8) (by decide) (List.mem_cons_of_mem _ nz_w693) rfl rfl dX8_comes_12 ?_
      refine nz_iload (pc := 15) (i := 4) E dX8_comes_15 rfl ?_
      obtain ⟨h3, hf⟩ := nz_chk_t hf
      refine nz_iald (pc := 17) (c := 11) E rfl h3 dX8_comes_17 ?_
      refine nz_bipush (pc := 18) (v := -9) E dX8_comes_18 (by decide) ?_
      refine nz_icmp_eq (pc := 20) (tgt := 45) E dX8_comes_20 (by decide) (fun h4 => ?_) (fun h4 => ?_)
      · have hf := nz_ite_t hf h4
        refine nz_iinc (pc := 45) (i := 4) (w := 1) E dX8_comes_45 rfl (by decide) (by decide) rfl ?_
        refine nz_goto (pc := 48) (tgt := 3) E dX8_comes_48 (by decide) ?_
        refine nz_weak (lv' := [(0, .ref (q 0)), (1, .ref (q p)), (2, .int _), (3, .int _), (4, .int _)]) ⟨rfl, rfl, rfl, rfl, rfl, trivial⟩ ?_
        exact ih _ _ _ hf hK
      · have hf := nz_ite_f hf h4
        refine nz_iload_n (pc := 23) (i := 2) E dX8_comes_23 rfl rfl ?_
        refine nz_iload (pc := 24) (i := 4) E dX8_comes_24 rfl ?_
        obtain ⟨r6, x7, h8, hf⟩ := nz_bnd_t hf
        refine nz_callSI (pc := 26) (As := [.int _, .int _]) E (k_X8_has   _ _ _ _ h8) (nz_cwS E nz_w831 nz_w832 nz_w67 nz_w833 ds_X8_has ⟨Nat.le_of_ble_eq_true rfl, Nat.le_of_ble_eq_true rfl⟩ rfl rfl) rfl rfl (Nat.le_of_ble_eq_true rfl) dX8_comes_26 ?_
        refine nz_if_ne (pc := 29) (tgt := 45) E dX8_comes_29 (by decide) (fun h9 => ?_) (fun h9 => ?_)
        · have hf := nz_ite_f hf h9
          refine nz_iinc (pc := 45) (i := 4) (w := 1) E dX8_comes_45 rfl (by decide) (by decide) rfl ?_
          refine nz_goto (pc := 48) (tgt := 3) E dX8_comes_48 (by decide) ?_
          refine nz_weak (lv' := [(0, .ref (q 0)), (1, .ref (q p)), (2, .int _), (3, .int _), (4, .int _)]) ⟨rfl, rfl, rfl, rfl, rfl, trivial⟩ ?_
          exact ih _ _ _ hf hK
        · have hf := nz_ite_t hf h9
          refine nz_aload_n (pc := 32) (i := 1) E dX8_comes_32 rfl rfl ?_
          refine nz_iload (pc := 33) (i := 4) E dX8_comes_33 rfl ?_
          refine nz_iload_n (pc := 35) (i := 3) E dX8_comes_35 rfl rfl ?_
          obtain ⟨r11, x12, h13, hf⟩ := nz_bnd_t hf
          refine nz_callSI (pc := 36) (As := [.ref (q p), .int _, .int _]) E (k_X8_goes p hp _ _ _ _ h13) (nz_cwS E nz_w816 nz_w817 nz_w67 nz_w818 ds_X8_goes ⟨Nat.le_of_ble_eq_true rfl, Nat.le_of_ble_eq_true rfl⟩ rfl rfl) rfl rfl (Nat.le_of_ble_eq_true rfl) dX8_comes_36 ?_
          refine nz_if_eq (pc := 39) (tgt := 45) E dX8_comes_39 (by decide) (fun h14 => ?_) (fun h14 => ?_)
          · have hf := nz_ite_t hf h14
            refine nz_iinc (pc := 45) (i := 4) (w := 1) E dX8_comes_45 rfl (by decide) (by decide) rfl ?_
            refine nz_goto (pc := 48) (tgt := 3) E dX8_comes_48 (by decide) ?_
            refine nz_weak (lv' := [(0, .ref (q 0)), (1, .ref (q p)), (2, .int _), (3, .int _), (4, .int _)]) ⟨rfl, rfl, rfl, rfl, rfl, trivial⟩ ?_
            exact ih _ _ _ hf hK
          · have hf := nz_ite_f hf h14
            refine nz_iload (pc := 42) (i := 4) E dX8_comes_42 rfl ?_
            exact nz_iret (pc := 44) E hR rfl hf dX8_comes_44
set_option maxHeartbeats 4000000 in
set_option maxRecDepth 20000 in
theorem k_X8_comes {l : Launch} {w : nz_O} {q : Nat → Nat} (p : Nat) (hp : nz_isP p) (a0 : Int32) (a1 : Int32) (x : nz_S) (o : Int32 × nz_S) (hf : f_X8_comes p a0 a1 x = some o) : nz_MI l yX8_comes (nz_T yX8_comes cX8_comes 5 (some .int)) (nz_R 1 24) w q nz_tM [.ref (q 0), .ref (q p), .int a0, .int a1] x o := by
  refine nz_enterI (by decide) rfl (Nat.le_of_ble_eq_true rfl) rfl rfl ?_
  intro κ E hw hlq hR
  subst hw; subst hlq
  unfold f_X8_comes at hf
  refine nz_weak (lv' := [(0, .ref (q 0)), (1, .ref (q p)), (2, .int a0), (3, .int a1)]) ⟨rfl, rfl, rfl, rfl, trivial⟩ ?_
  refine nz_iconst (pc := 0) (v := 0) E dX8_comes_0 (by decide) ?_
  refine nz_istore (pc := 1) (i := 4) E dX8_comes_1 (by decide) rfl ?_
  refine nz_weak (lv' := [(0, .ref (q 0)), (1, .ref (q p)), (2, .int _), (3, .int _), (4, .int _)]) ⟨rfl, rfl, rfl, rfl, rfl, trivial⟩ ?_
  refine w_X8_comes_3 p hp _ _ E hR _ _ _ _ hf (fun u17 x16 hf => ?_)
  refine nz_bipush (pc := 51) (v := -9) E dX8_comes_51 (by decide) ?_
  exact nz_iret (pc := 53) E hR rfl hf dX8_comes_53
def f_X8_mends_35 (p : Nat) (c2 : Int32) (c3 : Int32) : Nat → Int32 → nz_S → (Int32 → nz_S → Option (Int32 × nz_S)) → Option (Int32 × nz_S)
  | 0, _, _, _ => none
  | fu + 1, w4, x, K =>
  nz_chk (nz_in (0 : Int32) 61) <|
  if (x.1 p ((0 : Int32)).toNatClampNeg) ≤ w4 then
    K w4 x
  else
    if w4 = c2 then
      let v17 : Int32 := w4 + 1
      f_X8_mends_35 p c2 c3 fu v17 x K
    else
      nz_bnd (f_X8_has  c3 w4 x) fun r18 x19 =>
      if r18 = (0 : Int32) then
        let v23 : Int32 := w4 + 1
        f_X8_mends_35 p c2 c3 fu v23 x19 K
      else
        nz_bnd (f_X8_comes p c3 w4 x19) fun r24 x25 =>
        if r24 = (-9 : Int32) then
          let v28 : Int32 := w4 + 1
          f_X8_mends_35 p c2 c3 fu v28 x25 K
        else
          nz_bnd (f_X8_goSplit p r24 w4 x25) fun r29 x30 =>
          some ((1 : Int32), x30)
def f_X8_mends (p : Nat) (x : nz_S) : Option (Int32 × nz_S) :=
  nz_bnd (f_X8_find p  x) fun r1 x2 =>
  nz_bnd (f_X8_worst   x2) fun r4 x5 =>
  if r4 = (-9 : Int32) then
    some ((0 : Int32), x5)
  else
    nz_chk (nz_in (0 : Int32) 61) <|
    if (x5.1 p ((0 : Int32)).toNatClampNeg) = (12 : Int32) then
      some ((0 : Int32), x5)
    else
      nz_bnd (f_X8_nest  r4 x5) fun r10 x11 =>
      f_X8_mends_35 p r4 r10 nz_F (0 : Int32) x11 fun u33 x32 =>
        some ((0 : Int32), x32)
theorem ds_X8_mends : nz_dsc yX8_mends 1 := by unfold nz_dsc; decide +kernel
set_option maxHeartbeats 4000000 in
set_option maxRecDepth 20000 in
theorem w_X8_mends_35 {κ : nz_C} {q : Nat → Nat} {o : Int32 × nz_S} (p : Nat) (hp : nz_isP p) (c2 : Int32) (c3 : Int32) (E : nz_Env κ q nz_tM 6 cX8_mends RX8 (nz_T yX8_mends cX8_mends 6 (some .boolean)) (nz_R 5 124)) (hR : nz_RI κ q nz_tM .boolean o) : ∀ (fu : Nat) (w4 : Int32) (x : nz_S) (K : Int32 → nz_S → Option (Int32 × nz_S)), f_X8_mends_35 p c2 c3 fu w4 x K = some o → (∀ (w4 : Int32) (x : nz_S), K w4 x = some o → nz_St κ q nz_tM 6 97 [(0, .ref (q 0)), (1, .ref (q p)), (2, .int c2), (3, .int c3), (4, .int w4)] [] x) → nz_St κ q nz_tM 6 35 [(0, .ref (q 0)), (1, .ref (q p)), (2, .int c2), (3, .int c3), (4, .int w4)] [] x := by
  intro fu
  induction fu with
  | zero => intro w4 x K hf; rw [f_X8_mends_35] at hf; cases hf
  | succ fu ih =>
    intro w4 x K hf hK
    rw [f_X8_mends_35] at hf
    refine nz_iload (pc := 35) (i := 4) E dX8_mends_35 rfl ?_
    refine nz_aload_n (pc := 37) (i := 1) E dX8_mends_37 rfl rfl ?_
    refine nz_iconst (pc := 38) (v := 0) E dX8_mends_38 (by decide) ?_
    obtain ⟨h13, hf⟩ := nz_chk_t hf
    refine nz_iald (pc := 39) (c := p) E hp h13 dX8_mends_39 ?_
    refine nz_icmp_ge (pc := 40) (tgt := 97) E dX8_mends_40 (by decide) (fun h14 => ?_) (fun h14 => ?_)
    · have hf := nz_ite_t hf h14
      refine nz_weak (lv' := [(0, .ref (q 0)), (1, .ref (q p)), (2, .int _), (3, .int _), (4, .int _)]) ⟨rfl, rfl, rfl, rfl, rfl, trivial⟩ ?_
      exact hK _ _ hf
    · have hf := nz_ite_f hf h14
      refine nz_iload (pc := 43) (i := 4) E dX8_mends_43 rfl ?_
      refine nz_iload_n (pc := 45) (i := 2) E dX8_mends_45 rfl rfl ?_
      refine nz_icmp_eq (pc := 46) (tgt := 69) E dX8_mends_46 (by decide) (fun h15 => ?_) (fun h15 => ?_)
      · have hf := nz_ite_t hf h15
        refine nz_bipush (pc := 69) (v := -9) E dX8_mends_69 (by decide) ?_
        refine nz_istore (pc := 71) (i := 5) E dX8_mends_71 (by decide) rfl ?_
        refine nz_iload (pc := 73) (i := 5) E dX8_mends_73 rfl ?_
        refine nz_bipush (pc := 75) (v := -9) E dX8_mends_75 (by decide) ?_
        refine nz_icmp_eq (pc := 77) (tgt := 91) E dX8_mends_77 (by decide) (fun h16 => ?_) (fun h16 => absurd h16 (by decide))
        refine nz_iinc (pc := 91) (i := 4) (w := 1) E dX8_mends_91 rfl (by decide) (by decide) rfl ?_
        refine nz_goto (pc := 94) (tgt := 35) E dX8_mends_94 (by decide) ?_
        refine nz_weak (lv' := [(0, .ref (q 0)), (1, .ref (q p)), (2, .int _), (3, .int _), (4, .int _)]) ⟨rfl, rfl, rfl, rfl, rfl, trivial⟩ ?_
        exact ih _ _ _ hf hK
      · have hf := nz_ite_f hf h15
        refine nz_iload_n (pc := 49) (i := 3) E dX8_mends_49 rfl rfl ?_
        refine nz_iload (pc := 50) (i := 4) E dX8_mends_50 rfl ?_
        obtain ⟨r18, x19, h20, hf⟩ := nz_bnd_t hf
        refine nz_callSI (pc := 52) (As := [.int _, .int _]) E (k_X8_has   _ _ _ _ h20) (nz_cwS E nz_w831 nz_w832 nz_w67 nz_w833 ds_X8_has ⟨Nat.le_of_ble_eq_true rfl, Nat.le_of_ble_eq_true rfl⟩ rfl rfl) rfl rfl (Nat.le_of_ble_eq_true rfl) dX8_mends_52 ?_
        refine nz_if_eq (pc := 55) (tgt := 69) E dX8_mends_55 (by decide) (fun h21 => ?_) (fun h21 => ?_)
        · have hf := nz_ite_t hf h21
          refine nz_bipush (pc := 69) (v := -9) E dX8_mends_69 (by decide) ?_
          refine nz_istore (pc := 71) (i := 5) E dX8_mends_71 (by decide) rfl ?_
          refine nz_iload (pc := 73) (i := 5) E dX8_mends_73 rfl ?_
          refine nz_bipush (pc := 75) (v := -9) E dX8_mends_75 (by decide) ?_
          refine nz_icmp_eq (pc := 77) (tgt := 91) E dX8_mends_77 (by decide) (fun h22 => ?_) (fun h22 => absurd h22 (by decide))
          refine nz_iinc (pc := 91) (i := 4) (w := 1) E dX8_mends_91 rfl (by decide) (by decide) rfl ?_
          refine nz_goto (pc := 94) (tgt := 35) E dX8_mends_94 (by decide) ?_
          refine nz_weak (lv' := [(0, .ref (q 0)), (1, .ref (q p)), (2, .int _), (3, .int _), (4, .int _)]) ⟨rfl, rfl, rfl, rfl, rfl, trivial⟩ ?_
          exact ih _ _ _ hf hK
        · have hf := nz_ite_f hf h21
          refine nz_aload_n (pc := 58) (i := 0) E dX8_mends_58 rfl rfl ?_
          refine nz_aload_n (pc := 59) (i := 1) E dX8_mends_59 rfl rfl ?_
          refine nz_iload_n (pc := 60) (i := 3) E dX8_mends_60 rfl rfl ?_
          refine nz_iload (pc := 61) (i := 4) E dX8_mends_61 rfl ?_
          obtain ⟨r24, x25, h26, hf⟩ := nz_bnd_t hf
          refine nz_callVI (pc := 63) (c0 := 0) (As := [.ref (q p), .int _, .int _]) E rfl rfl (k_X8_comes p hp _ _ _ _ h26) (nz_cwV E nz_w941 nz_w943 nz_w46 nz_w67 nz_w944 ds_X8_comes ⟨Nat.le_of_ble_eq_true rfl, Nat.le_of_ble_eq_true rfl⟩ rfl rfl) rfl rfl (Nat.le_of_ble_eq_true rfl) dX8_mends_63 ?_
          refine nz_goto (pc := 66) (tgt := 71) E dX8_mends_66 (by decide) ?_
          refine nz_istore (pc := 71) (i := 5) E dX8_mends_71 (by decide) rfl ?_
          refine nz_iload (pc := 73) (i := 5) E dX8_mends_73 rfl ?_
          refine nz_bipush (pc := 75) (v := -9) E dX8_mends_75 (by decide) ?_
          refine nz_icmp_eq (pc := 77) (tgt := 91) E dX8_mends_77 (by decide) (fun h27 => ?_) (fun h27 => ?_)
          · have hf := nz_ite_t hf h27
            refine nz_iinc (pc := 91) (i := 4) (w := 1) E dX8_mends_91 rfl (by decide) (by decide) rfl ?_
            refine nz_goto (pc := 94) (tgt := 35) E dX8_mends_94 (by decide) ?_
            refine nz_weak (lv' := [(0, .ref (q 0)), (1, .ref (q p)), (2, .int _), (3, .int _), (4, .int _)]) ⟨rfl, rfl, rfl, rfl, rfl, trivial⟩ ?_
            exact ih _ _ _ hf hK
          · have hf := nz_ite_f hf h27
            refine nz_aload_n (pc := 80) (i := 1) E dX8_mends_80 rfl rfl ?_
            refine nz_iload (pc := 81) (i := 5) E dX8_mends_81 rfl ?_
            refine nz_iload (pc := 83) (i := 4) E dX8_mends_83 rfl ?_
            obtain ⟨r29, x30, h31, hf⟩ := nz_bnd_t hf
            refine nz_callSI (pc := 85) (As := [.ref (q p), .int _, .int _]) E (k_X8_goSplit p hp _ _ _ _ h31) (nz_cwS E nz_w922 nz_w923 nz_w67 nz_w924 ds_X8_goSplit ⟨Nat.le_of_ble_eq_true rfl, Nat.le_of_ble_eq_true rfl⟩ rfl rfl) rfl rfl (Nat.le_of_ble_eq_true rfl) dX8_mends_85 ?_
            refine nz_pop (pc := 88) E dX8_mends_88 rfl ?_
            refine nz_iconst (pc := 89) (v := 1) E dX8_mends_89 (by decide) ?_
            exact nz_iret (pc := 90) E hR rfl hf dX8_mends_90
set_option maxHeartbeats 4000000 in
set_option maxRecDepth 20000 in
theorem k_X8_mends {l : Launch} {w : nz_O} {q : Nat → Nat} (p : Nat) (hp : nz_isP p) (x : nz_S) (o : Int32 × nz_S) (hf : f_X8_mends p x = some o) : nz_MI l yX8_mends (nz_T yX8_mends cX8_mends 6 (some .boolean)) (nz_R 5 124) w q nz_tM [.ref (q 0), .ref (q p)] x o := by
  refine nz_enterI (by decide) rfl (Nat.le_of_ble_eq_true rfl) rfl rfl ?_
  intro κ E hw hlq hR
  subst hw; subst hlq
  unfold f_X8_mends at hf
  refine nz_weak (lv' := [(0, .ref (q 0)), (1, .ref (q p))]) ⟨rfl, rfl, trivial⟩ ?_
  refine nz_aload_n (pc := 0) (i := 0) E dX8_mends_0 rfl rfl ?_
  refine nz_aload_n (pc := 1) (i := 1) E dX8_mends_1 rfl rfl ?_
  obtain ⟨r1, x2, h3, hf⟩ := nz_bnd_t hf
  refine nz_callVV (pc := 2) (c0 := 0) (As := [.ref (q p)]) E rfl rfl (k_X8_find p hp _ _ h3) (nz_cwV E nz_w800 nz_w802 nz_w24 nz_w67 nz_w803 ds_X8_find ⟨Nat.le_of_ble_eq_true rfl, Nat.le_of_ble_eq_true rfl⟩ rfl rfl) rfl rfl (Nat.le_of_ble_eq_true rfl) dX8_mends_2 ?_
  refine nz_aload_n (pc := 5) (i := 0) E dX8_mends_5 rfl rfl ?_
  obtain ⟨r4, x5, h6, hf⟩ := nz_bnd_t hf
  refine nz_callVI (pc := 6) (c0 := 0) (As := []) E rfl rfl (k_X8_worst   _ _ h6) (nz_cwV E nz_w929 nz_w931 nz_w43 nz_w67 nz_w932 ds_X8_worst ⟨Nat.le_of_ble_eq_true rfl, Nat.le_of_ble_eq_true rfl⟩ rfl rfl) rfl rfl (Nat.le_of_ble_eq_true rfl) dX8_mends_6 ?_
  refine nz_istore_n (pc := 9) (i := 2) E dX8_mends_9 rfl (by decide) rfl ?_
  refine nz_iload_n (pc := 10) (i := 2) E dX8_mends_10 rfl rfl ?_
  refine nz_bipush (pc := 11) (v := -9) E dX8_mends_11 (by decide) ?_
  refine nz_icmp_eq (pc := 13) (tgt := 24) E dX8_mends_13 (by decide) (fun h7 => ?_) (fun h7 => ?_)
  · have hf := nz_ite_t hf h7
    refine nz_iconst (pc := 24) (v := 0) E dX8_mends_24 (by decide) ?_
    exact nz_iret (pc := 25) E hR rfl hf dX8_mends_25
  · have hf := nz_ite_f hf h7
    refine nz_aload_n (pc := 16) (i := 1) E dX8_mends_16 rfl rfl ?_
    refine nz_iconst (pc := 17) (v := 0) E dX8_mends_17 (by decide) ?_
    obtain ⟨h8, hf⟩ := nz_chk_t hf
    refine nz_iald (pc := 18) (c := p) E hp h8 dX8_mends_18 ?_
    refine nz_bipush (pc := 19) (v := 12) E dX8_mends_19 (by decide) ?_
    refine nz_icmp_ne (pc := 21) (tgt := 26) E dX8_mends_21 (by decide) (fun h9 => ?_) (fun h9 => ?_)
    · have hf := nz_ite_f hf h9
      refine nz_aload_n (pc := 26) (i := 0) E dX8_mends_26 rfl rfl ?_
      refine nz_iload_n (pc := 27) (i := 2) E dX8_mends_27 rfl rfl ?_
      obtain ⟨r10, x11, h12, hf⟩ := nz_bnd_t hf
      refine nz_callVI (pc := 28) (c0 := 0) (As := [.int _]) E rfl rfl (k_X8_nest   _ _ _ h12) (nz_cwV E nz_w896 nz_w898 nz_w41 nz_w67 nz_w899 ds_X8_nest ⟨Nat.le_of_ble_eq_true rfl, Nat.le_of_ble_eq_true rfl⟩ rfl rfl) rfl rfl (Nat.le_of_ble_eq_true rfl) dX8_mends_28 ?_
      refine nz_istore_n (pc := 31) (i := 3) E dX8_mends_31 rfl (by decide) rfl ?_
      refine nz_iconst (pc := 32) (v := 0) E dX8_mends_32 (by decide) ?_
      refine nz_istore (pc := 33) (i := 4) E dX8_mends_33 (by decide) rfl ?_
      refine nz_weak (lv' := [(0, .ref (q 0)), (1, .ref (q p)), (2, .int _), (3, .int _), (4, .int _)]) ⟨rfl, rfl, rfl, rfl, rfl, trivial⟩ ?_
      refine w_X8_mends_35 p hp _ _ E hR _ _ _ _ hf (fun u33 x32 hf => ?_)
      refine nz_iconst (pc := 97) (v := 0) E dX8_mends_97 (by decide) ?_
      exact nz_iret (pc := 98) E hR rfl hf dX8_mends_98
    · have hf := nz_ite_t hf h9
      refine nz_iconst (pc := 24) (v := 0) E dX8_mends_24 (by decide) ?_
      exact nz_iret (pc := 25) E hR rfl hf dX8_mends_25
def f_X8_goMend_2 (p : Nat) : Nat → Int32 → nz_S → (Int32 → nz_S → Option (Int32 × nz_S)) → Option (Int32 × nz_S)
  | 0, _, _, _ => none
  | fu + 1, w2, x, K =>
  if (12 : Int32) ≤ w2 then
    K w2 x
  else
    nz_bnd (f_X8_mends p  x) fun r2 x3 =>
    if r2 = (0 : Int32) then
      K w2 x3
    else
      let v6 : Int32 := w2 + 1
      f_X8_goMend_2 p fu v6 x3 K
def f_X8_goMend (p : Nat) (x : nz_S) : Option (Int32 × nz_S) :=
  f_X8_goMend_2 p nz_F (0 : Int32) x fun u8 x7 =>
    some (u8, x7)
theorem ds_X8_goMend : nz_dsc yX8_goMend 1 := by unfold nz_dsc; decide +kernel
set_option maxHeartbeats 4000000 in
set_option maxRecDepth 20000 in
theorem w_X8_goMend_2 {κ : nz_C} {q : Nat → Nat} {o : Int32 × nz_S} (p : Nat) (hp : nz_isP p) (E : nz_Env κ q nz_tM 3 cX8_goMend RX8 (nz_T yX8_goMend cX8_goMend 3 (some .int)) (nz_R 6 149)) (hR : nz_RI κ q nz_tM .int o) : ∀ (fu : Nat) (w2 : Int32) (x : nz_S) (K : Int32 → nz_S → Option (Int32 × nz_S)), f_X8_goMend_2 p fu w2 x K = some o → (∀ (w2 : Int32) (x : nz_S), K w2 x = some o → nz_St κ q nz_tM 3 22 [(0, .ref (q 0)), (1, .ref (q p)), (2, .int w2)] [] x) → nz_St κ q nz_tM 3 2 [(0, .ref (q 0)), (1, .ref (q p)), (2, .int w2)] [] x := by
  intro fu
  induction fu with
  | zero => intro w2 x K hf; rw [f_X8_goMend_2] at hf; cases hf
  | succ fu ih =>
    intro w2 x K hf hK
    rw [f_X8_goMend_2] at hf
    refine nz_iload_n (pc := 2) (i := 2) E dX8_goMend_2 rfl rfl ?_
    refine nz_bipush (pc := 3) (v := 12) E dX8_goMend_3 (by decide) ?_
    refine nz_icmp_ge (pc := 5) (tgt := 22) E dX8_goMend_5 (by decide) (fun h1 => ?_) (fun h1 => ?_)
    · have hf := nz_ite_t hf h1
      refine nz_weak (lv' := [(0, .ref (q 0)), (1, .ref (q p)), (2, .int _)]) ⟨rfl, rfl, rfl, trivial⟩ ?_
      exact hK _ _ hf
    · have hf := nz_ite_f hf h1
      refine nz_aload_n (pc := 8) (i := 0) E dX8_goMend_8 rfl rfl ?_
      refine nz_aload_n (pc := 9) (i := 1) E dX8_goMend_9 rfl rfl ?_
      obtain ⟨r2, x3, h4, hf⟩ := nz_bnd_t hf
      refine nz_callVI (pc := 10) (c0 := 0) (As := [.ref (q p)]) E rfl rfl (k_X8_mends p hp _ _ h4) (nz_cwV E nz_w937 nz_w939 nz_w45 nz_w67 nz_w940 ds_X8_mends ⟨Nat.le_of_ble_eq_true rfl, Nat.le_of_ble_eq_true rfl⟩ rfl rfl) rfl rfl (Nat.le_of_ble_eq_true rfl) dX8_goMend_10 ?_
      refine nz_if_eq (pc := 13) (tgt := 22) E dX8_goMend_13 (by decide) (fun h5 => ?_) (fun h5 => ?_)
      · have hf := nz_ite_t hf h5
        refine nz_weak (lv' := [(0, .ref (q 0)), (1, .ref (q p)), (2, .int _)]) ⟨rfl, rfl, rfl, trivial⟩ ?_
        exact hK _ _ hf
      · have hf := nz_ite_f hf h5
        refine nz_iinc (pc := 16) (i := 2) (w := 1) E dX8_goMend_16 rfl (by decide) (by decide) rfl ?_
        refine nz_goto (pc := 19) (tgt := 2) E dX8_goMend_19 (by decide) ?_
        refine nz_weak (lv' := [(0, .ref (q 0)), (1, .ref (q p)), (2, .int _)]) ⟨rfl, rfl, rfl, trivial⟩ ?_
        exact ih _ _ _ hf hK
set_option maxHeartbeats 4000000 in
set_option maxRecDepth 20000 in
theorem k_X8_goMend {l : Launch} {w : nz_O} {q : Nat → Nat} (p : Nat) (hp : nz_isP p) (x : nz_S) (o : Int32 × nz_S) (hf : f_X8_goMend p x = some o) : nz_MI l yX8_goMend (nz_T yX8_goMend cX8_goMend 3 (some .int)) (nz_R 6 149) w q nz_tM [.ref (q 0), .ref (q p)] x o := by
  refine nz_enterI (by decide) rfl (Nat.le_of_ble_eq_true rfl) rfl rfl ?_
  intro κ E hw hlq hR
  subst hw; subst hlq
  unfold f_X8_goMend at hf
  refine nz_weak (lv' := [(0, .ref (q 0)), (1, .ref (q p))]) ⟨rfl, rfl, trivial⟩ ?_
  refine nz_iconst (pc := 0) (v := 0) E dX8_goMend_0 (by decide) ?_
  refine nz_istore_n (pc := 1) (i := 2) E dX8_goMend_1 rfl (by decide) rfl ?_
  refine nz_weak (lv' := [(0, .ref (q 0)), (1, .ref (q p)), (2, .int _)]) ⟨rfl, rfl, rfl, trivial⟩ ?_
  refine w_X8_goMend_2 p hp E hR _ _ _ _ hf (fun u8 x7 hf => ?_)
  refine nz_iload_n (pc := 22) (i := 2) E dX8_goMend_22 rfl rfl ?_
  exact nz_iret (pc := 23) E hR rfl hf dX8_goMend_23
def f_X8_mend (x : nz_S) : Option (Int32 × nz_S) :=
  let x1 : nz_S := nz_put x 0 0 (0 : Int32)
  nz_bnd (f_X8_find 3  x1) fun r2 x3 =>
  nz_bnd (f_X8_worst   x3) fun r5 x6 =>
  if r5 = (-9 : Int32) then
    some ((-3 : Int32), x6)
  else
    nz_bnd (f_X8_note   x6) fun r9 x10 =>
    nz_bnd (f_X8_goMend 3  x10) fun r12 x13 =>
    some (r12, x13)
theorem ds_X8_mend : nz_dsc yX8_mend 0 := by unfold nz_dsc; decide +kernel
set_option maxHeartbeats 4000000 in
set_option maxRecDepth 20000 in
theorem k_X8_mend {l : Launch} {w : nz_O} {q : Nat → Nat} (x : nz_S) (o : Int32 × nz_S) (hf : f_X8_mend x = some o) : nz_MI l yX8_mend (nz_T yX8_mend cX8_mend 1 (some .int)) (nz_R 7 171) w q nz_tM [.ref (q 0)] x o := by
  refine nz_enterI (by decide) rfl (Nat.le_of_ble_eq_true rfl) rfl rfl ?_
  intro κ E hw hlq hR
  subst hw; subst hlq
  unfold f_X8_mend at hf
  refine nz_weak (lv' := [(0, .ref (q 0))]) ⟨rfl, trivial⟩ ?_
  refine nz_aload_n (pc := 0) (i := 0) E dX8_mend_0 rfl rfl ?_
  refine nz_iconst (pc := 1) (v := 0) E dX8_mend_1 (by decide) ?_
  refine nz_putI (pc := 2) (c := 0) (kf := 0) E rfl rfl (nz_upT nz_uX8) (by decide) (List.mem_cons_of_mem _ nz_w676) rfl tyX8 tyX8_ok nmX8 rfl (tyX8_ok 0 (by decide)) rfl dX8_mend_2 ?_
  refine nz_aload_n (pc := 5) (i := 0) E dX8_mend_5 rfl rfl ?_
  refine nz_aload_n (pc := 6) (i := 0) E dX8_mend_6 rfl rfl ?_
  refine nz_getR (pc := 7) (c := 0) (kf := 5) E rfl rfl (nz_upT nz_uX8) (by decide) (List.mem_cons_of_mem _ nz_w681) rfl rfl dX8_mend_7 ?_
  obtain ⟨r2, x3, h4, hf⟩ := nz_bnd_t hf
  refine nz_callVV (pc := 10) (c0 := 0) (As := [.ref (q 3)]) E rfl rfl (k_X8_find 3 nz_p3 _ _ h4) (nz_cwV E nz_w800 nz_w802 nz_w24 nz_w67 nz_w803 ds_X8_find ⟨Nat.le_of_ble_eq_true rfl, Nat.le_of_ble_eq_true rfl⟩ rfl rfl) rfl rfl (Nat.le_of_ble_eq_true rfl) dX8_mend_10 ?_
  refine nz_aload_n (pc := 13) (i := 0) E dX8_mend_13 rfl rfl ?_
  obtain ⟨r5, x6, h7, hf⟩ := nz_bnd_t hf
  refine nz_callVI (pc := 14) (c0 := 0) (As := []) E rfl rfl (k_X8_worst   _ _ h7) (nz_cwV E nz_w929 nz_w931 nz_w43 nz_w67 nz_w932 ds_X8_worst ⟨Nat.le_of_ble_eq_true rfl, Nat.le_of_ble_eq_true rfl⟩ rfl rfl) rfl rfl (Nat.le_of_ble_eq_true rfl) dX8_mend_14 ?_
  refine nz_bipush (pc := 17) (v := -9) E dX8_mend_17 (by decide) ?_
  refine nz_icmp_ne (pc := 19) (tgt := 25) E dX8_mend_19 (by decide) (fun h8 => ?_) (fun h8 => ?_)
  · have hf := nz_ite_f hf h8
    refine nz_aload_n (pc := 25) (i := 0) E dX8_mend_25 rfl rfl ?_
    obtain ⟨r9, x10, h11, hf⟩ := nz_bnd_t hf
    refine nz_callVV (pc := 26) (c0 := 0) (As := []) E rfl rfl (k_X8_note   _ _ h11) (nz_cwV E nz_w904 nz_w906 nz_w42 nz_w67 nz_w907 ds_X8_note ⟨Nat.le_of_ble_eq_true rfl, Nat.le_of_ble_eq_true rfl⟩ rfl rfl) rfl rfl (Nat.le_of_ble_eq_true rfl) dX8_mend_26 ?_
    refine nz_aload_n (pc := 29) (i := 0) E dX8_mend_29 rfl rfl ?_
    refine nz_aload_n (pc := 30) (i := 0) E dX8_mend_30 rfl rfl ?_
    refine nz_getR (pc := 31) (c := 0) (kf := 5) E rfl rfl (nz_upT nz_uX8) (by decide) (List.mem_cons_of_mem _ nz_w681) rfl rfl dX8_mend_31 ?_
    obtain ⟨r12, x13, h14, hf⟩ := nz_bnd_t hf
    refine nz_callVI (pc := 34) (c0 := 0) (As := [.ref (q 3)]) E rfl rfl (k_X8_goMend 3 nz_p3 _ _ h14) (nz_cwV E nz_w933 nz_w935 nz_w44 nz_w67 nz_w936 ds_X8_goMend ⟨Nat.le_of_ble_eq_true rfl, Nat.le_of_ble_eq_true rfl⟩ rfl rfl) rfl rfl (Nat.le_of_ble_eq_true rfl) dX8_mend_34 ?_
    exact nz_iret (pc := 37) E hR rfl hf dX8_mend_37
  · have hf := nz_ite_t hf h8
    refine nz_bipush (pc := 22) (v := -3) E dX8_mend_22 (by decide) ?_
    exact nz_iret (pc := 24) E hR rfl hf dX8_mend_24
def f_X8_undo_27 : Nat → Int32 → nz_S → (Int32 → nz_S → Option (Int32 × nz_S)) → Option (Int32 × nz_S)
  | 0, _, _, _ => none
  | fu + 1, w1, x, K =>
  if (61 : Int32) ≤ w1 then
    K w1 x
  else
    let v5 : Int32 := (((61 : Int32) * (x.1 0 8)) + w1)
    nz_chk (nz_in v5 854) <|
    nz_chk (nz_in w1 61) <|
    let x8 : nz_S := nz_put x 3 (w1).toNatClampNeg (x.1 5 (v5).toNatClampNeg)
    let v9 : Int32 := w1 + 1
    f_X8_undo_27 fu v9 x8 K
def f_X8_undo (x : nz_S) : Option (Int32 × nz_S) :=
  let x1 : nz_S := nz_put x 0 0 (0 : Int32)
  if (x1.1 0 8) = (0 : Int32) then
    some ((-3 : Int32), x1)
  else
    let x3 : nz_S := nz_put x1 0 8 ((x1.1 0 8) - (1 : Int32))
    f_X8_undo_27 nz_F (0 : Int32) x3 fun u11 x10 =>
      some ((x10.1 0 8), x10)
theorem ds_X8_undo : nz_dsc yX8_undo 0 := by unfold nz_dsc; decide +kernel
set_option maxHeartbeats 4000000 in
set_option maxRecDepth 20000 in
theorem w_X8_undo_27 {κ : nz_C} {q : Nat → Nat} {o : Int32 × nz_S} (E : nz_Env κ q nz_tM 2 cX8_undo RX8 (nz_T yX8_undo cX8_undo 2 (some .int)) (nz_R 0 0)) (hR : nz_RI κ q nz_tM .int o) : ∀ (fu : Nat) (w1 : Int32) (x : nz_S) (K : Int32 → nz_S → Option (Int32 × nz_S)), f_X8_undo_27 fu w1 x K = some o → (∀ (w1 : Int32) (x : nz_S), K w1 x = some o → nz_St κ q nz_tM 2 59 [(0, .ref (q 0)), (1, .int w1)] [] x) → nz_St κ q nz_tM 2 27 [(0, .ref (q 0)), (1, .int w1)] [] x := by
  intro fu
  induction fu with
  | zero => intro w1 x K hf; rw [f_X8_undo_27] at hf; cases hf
  | succ fu ih =>
    intro w1 x K hf hK
    rw [f_X8_undo_27] at hf
    refine nz_iload_n (pc := 27) (i := 1) E dX8_undo_27 rfl rfl ?_
    refine nz_bipush (pc := 28) (v := 61) E dX8_undo_28 (by decide) ?_
    refine nz_icmp_ge (pc := 30) (tgt := 59) E dX8_undo_30 (by decide) (fun h4 => ?_) (fun h4 => ?_)
    · have hf := nz_ite_t hf h4
      refine nz_weak (lv' := [(0, .ref (q 0)), (1, .int _)]) ⟨rfl, rfl, trivial⟩ ?_
      exact hK _ _ hf
    · have hf := nz_ite_f hf h4
      refine nz_aload_n (pc := 33) (i := 0) E dX8_undo_33 rfl rfl ?_
      refine nz_getR (pc := 34) (c := 0) (kf := 5) E rfl rfl (nz_upT nz_uX8) (by decide) (List.mem_cons_of_mem _ nz_w681) rfl rfl dX8_undo_34 ?_
      refine nz_iload_n (pc := 37) (i := 1) E dX8_undo_37 rfl rfl ?_
      refine nz_aload_n (pc := 38) (i := 0) E dX8_undo_38 rfl rfl ?_
      refine nz_getR (pc := 39) (c := 0) (kf := 7) E rfl rfl (nz_upT nz_uX8) (by decide) (List.mem_cons_of_mem _ nz_w683) rfl rfl dX8_undo_39 ?_
      refine nz_bipush (pc := 42) (v := 61) E dX8_undo_42 (by decide) ?_
      refine nz_aload_n (pc := 44) (i := 0) E dX8_undo_44 rfl rfl ?_
      refine nz_getI (pc := 45) (c := 0) (kf := 8) E rfl rfl (nz_upT nz_uX8) (by decide) (List.mem_cons_of_mem _ nz_w684) rfl rfl dX8_undo_45 ?_
      refine nz_imul (pc := 48) E dX8_undo_48 ?_
      refine nz_iload_n (pc := 49) (i := 1) E dX8_undo_49 rfl rfl ?_
      refine nz_iadd (pc := 50) E dX8_undo_50 ?_
      obtain ⟨h6, hf⟩ := nz_chk_t hf
      refine nz_iald (pc := 51) (c := 5) E rfl h6 dX8_undo_51 ?_
      obtain ⟨h7, hf⟩ := nz_chk_t hf
      refine nz_iast (pc := 52) (c := 3) E rfl h7 dX8_undo_52 ?_
      refine nz_iinc (pc := 53) (i := 1) (w := 1) E dX8_undo_53 rfl (by decide) (by decide) rfl ?_
      refine nz_goto (pc := 56) (tgt := 27) E dX8_undo_56 (by decide) ?_
      refine nz_weak (lv' := [(0, .ref (q 0)), (1, .int _)]) ⟨rfl, rfl, trivial⟩ ?_
      exact ih _ _ _ hf hK
set_option maxHeartbeats 4000000 in
set_option maxRecDepth 20000 in
theorem k_X8_undo {l : Launch} {w : nz_O} {q : Nat → Nat} (x : nz_S) (o : Int32 × nz_S) (hf : f_X8_undo x = some o) : nz_MI l yX8_undo (nz_T yX8_undo cX8_undo 2 (some .int)) (nz_R 0 0) w q nz_tM [.ref (q 0)] x o := by
  refine nz_enterI (by decide) rfl (Nat.le_of_ble_eq_true rfl) rfl rfl ?_
  intro κ E hw hlq hR
  subst hw; subst hlq
  unfold f_X8_undo at hf
  refine nz_weak (lv' := [(0, .ref (q 0))]) ⟨rfl, trivial⟩ ?_
  refine nz_aload_n (pc := 0) (i := 0) E dX8_undo_0 rfl rfl ?_
  refine nz_iconst (pc := 1) (v := 0) E dX8_undo_1 (by decide) ?_
  refine nz_putI (pc := 2) (c := 0) (kf := 0) E rfl rfl (nz_upT nz_uX8) (by decide) (List.mem_cons_of_mem _ nz_w676) rfl tyX8 tyX8_ok nmX8 rfl (tyX8_ok 0 (by decide)) rfl dX8_undo_2 ?_
  refine nz_aload_n (pc := 5) (i := 0) E dX8_undo_5 rfl rfl ?_
  refine nz_getI (pc := 6) (c := 0) (kf := 8) E rfl rfl (nz_upT nz_uX8) (by decide) (List.mem_cons_of_mem _ nz_w684) rfl rfl dX8_undo_6 ?_
  refine nz_if_ne (pc := 9) (tgt := 15) E dX8_undo_9 (by decide) (fun h2 => ?_) (fun h2 => ?_)
  · have hf := nz_ite_f hf h2
    refine nz_aload_n (pc := 15) (i := 0) E dX8_undo_15 rfl rfl ?_
    refine nz_dup (pc := 16) E dX8_undo_16 rfl ?_
    refine nz_getI (pc := 17) (c := 0) (kf := 8) E rfl rfl (nz_upT nz_uX8) (by decide) (List.mem_cons_of_mem _ nz_w684) rfl rfl dX8_undo_17 ?_
    refine nz_iconst (pc := 20) (v := 1) E dX8_undo_20 (by decide) ?_
    refine nz_isub (pc := 21) E dX8_undo_21 ?_
    refine nz_putI (pc := 22) (c := 0) (kf := 8) E rfl rfl (nz_upT nz_uX8) (by decide) (List.mem_cons_of_mem _ nz_w684) rfl tyX8 tyX8_ok nmX8 rfl (tyX8_ok 8 (by decide)) rfl dX8_undo_22 ?_
    refine nz_iconst (pc := 25) (v := 0) E dX8_undo_25 (by decide) ?_
    refine nz_istore_n (pc := 26) (i := 1) E dX8_undo_26 rfl (by decide) rfl ?_
    refine nz_weak (lv' := [(0, .ref (q 0)), (1, .int _)]) ⟨rfl, rfl, trivial⟩ ?_
    refine w_X8_undo_27 E hR _ _ _ _ hf (fun u11 x10 hf => ?_)
    refine nz_aload_n (pc := 59) (i := 0) E dX8_undo_59 rfl rfl ?_
    refine nz_getI (pc := 60) (c := 0) (kf := 8) E rfl rfl (nz_upT nz_uX8) (by decide) (List.mem_cons_of_mem _ nz_w684) rfl rfl dX8_undo_60 ?_
    exact nz_iret (pc := 63) E hR rfl hf dX8_undo_63
  · have hf := nz_ite_t hf h2
    refine nz_bipush (pc := 12) (v := -3) E dX8_undo_12 (by decide) ?_
    exact nz_iret (pc := 14) E hR rfl hf dX8_undo_14
def f_X8_step (a0 : Int32) (a1 : Int32) (x : nz_S) : Option (Int32 × nz_S) :=
  let v1 : Int32 := ((13 : Int32) + a0)
  nz_chk (nz_in v1 61) <|
  let v3 : Int32 := (x.1 3 (v1).toNatClampNeg)
  if v3 = (0 : Int32) then
    some (a0, x)
  else
    nz_chk (v3 != 0) <|
    let v6 : Int32 := (((25 : Int32) + ((3 : Int32) * a0)) + (a1 - a1 / v3 * v3))
    nz_chk (nz_in v6 61) <|
    some ((x.1 3 (v6).toNatClampNeg), x)
theorem ds_X8_step : nz_dsc yX8_step 2 := by unfold nz_dsc; decide +kernel
set_option maxHeartbeats 4000000 in
set_option maxRecDepth 20000 in
theorem k_X8_step {l : Launch} {w : nz_O} {q : Nat → Nat} (a0 : Int32) (a1 : Int32) (x : nz_S) (o : Int32 × nz_S) (hf : f_X8_step a0 a1 x = some o) : nz_MI l yX8_step (nz_T yX8_step cX8_step 4 (some .int)) (nz_R 0 0) w q nz_tM [.ref (q 0), .int a0, .int a1] x o := by
  refine nz_enterI (by decide) rfl (Nat.le_of_ble_eq_true rfl) rfl rfl ?_
  intro κ E hw hlq hR
  subst hw; subst hlq
  unfold f_X8_step at hf
  refine nz_weak (lv' := [(0, .ref (q 0)), (1, .int a0), (2, .int a1)]) ⟨rfl, rfl, rfl, trivial⟩ ?_
  refine nz_aload_n (pc := 0) (i := 0) E dX8_step_0 rfl rfl ?_
  refine nz_getR (pc := 1) (c := 0) (kf := 5) E rfl rfl (nz_upT nz_uX8) (by decide) (List.mem_cons_of_mem _ nz_w681) rfl rfl dX8_step_1 ?_
  refine nz_bipush (pc := 4) (v := 13) E dX8_step_4 (by decide) ?_
  refine nz_iload_n (pc := 6) (i := 1) E dX8_step_6 rfl rfl ?_
  refine nz_iadd (pc := 7) E dX8_step_7 ?_
  obtain ⟨h2, hf⟩ := nz_chk_t hf
  refine nz_iald (pc := 8) (c := 3) E rfl h2 dX8_step_8 ?_
  refine nz_istore_n (pc := 9) (i := 3) E dX8_step_9 rfl (by decide) rfl ?_
  refine nz_iload_n (pc := 10) (i := 3) E dX8_step_10 rfl rfl ?_
  refine nz_if_ne (pc := 11) (tgt := 18) E dX8_step_11 (by decide) (fun h4 => ?_) (fun h4 => ?_)
  · have hf := nz_ite_f hf h4
    refine nz_aload_n (pc := 18) (i := 0) E dX8_step_18 rfl rfl ?_
    refine nz_getR (pc := 19) (c := 0) (kf := 5) E rfl rfl (nz_upT nz_uX8) (by decide) (List.mem_cons_of_mem _ nz_w681) rfl rfl dX8_step_19 ?_
    refine nz_bipush (pc := 22) (v := 25) E dX8_step_22 (by decide) ?_
    refine nz_iconst (pc := 24) (v := 3) E dX8_step_24 (by decide) ?_
    refine nz_iload_n (pc := 25) (i := 1) E dX8_step_25 rfl rfl ?_
    refine nz_imul (pc := 26) E dX8_step_26 ?_
    refine nz_iadd (pc := 27) E dX8_step_27 ?_
    refine nz_iload_n (pc := 28) (i := 2) E dX8_step_28 rfl rfl ?_
    refine nz_iload_n (pc := 29) (i := 3) E dX8_step_29 rfl rfl ?_
    obtain ⟨h5, hf⟩ := nz_chk_t hf
    refine nz_irem (pc := 30) E dX8_step_30 h5 ?_
    refine nz_iadd (pc := 31) E dX8_step_31 ?_
    obtain ⟨h7, hf⟩ := nz_chk_t hf
    refine nz_iald (pc := 32) (c := 3) E rfl h7 dX8_step_32 ?_
    exact nz_iret (pc := 33) E hR rfl hf dX8_step_33
  · have hf := nz_ite_t hf h4
    refine nz_iload_n (pc := 14) (i := 1) E dX8_step_14 rfl rfl ?_
    refine nz_goto (pc := 15) (tgt := 33) E dX8_step_15 (by decide) ?_
    exact nz_iret (pc := 33) E hR rfl hf dX8_step_33
def f_X8_areChoices_22 : Nat → Int32 → Int32 → nz_S → (Int32 → Int32 → nz_S → Option (Int32 × nz_S)) → Option (Int32 × nz_S)
  | 0, _, _, _, _ => none
  | fu + 1, w2, w3, x, K =>
  if w3 ≤ (0 : Int32) then
    K w2 w3 x
  else
    if w2 = (0 : Int32) then
      let v4 : Int32 := (w3 / (10 : Int32))
      f_X8_areChoices_22 fu (0 : Int32) v4 x K
    else
      if (3 : Int32) ≤ (w3 - w3 / (10 : Int32) * (10 : Int32)) then
        let v6 : Int32 := (w3 / (10 : Int32))
        f_X8_areChoices_22 fu (0 : Int32) v6 x K
      else
        let v7 : Int32 := (w3 / (10 : Int32))
        f_X8_areChoices_22 fu (1 : Int32) v7 x K
def f_X8_areChoices (a0 : Int32) (a1 : Int32) (x : nz_S) : Option (Int32 × nz_S) :=
  if a1 < (0 : Int32) then
    f_X8_areChoices_22 nz_F (0 : Int32) a1 x fun u9 u10 x8 =>
      nz_chk (nz_bo u9) <|
      some (u9, x8)
  else
    nz_bnd (f_X8_power  (10 : Int32) a0 x) fun r12 x13 =>
    if r12 ≤ a1 then
      f_X8_areChoices_22 nz_F (0 : Int32) a1 x13 fun u17 u18 x16 =>
        nz_chk (nz_bo u17) <|
        some (u17, x16)
    else
      f_X8_areChoices_22 nz_F (1 : Int32) a1 x13 fun u21 u22 x20 =>
        nz_chk (nz_bo u21) <|
        some (u21, x20)
theorem ds_X8_areChoices : nz_dsc yX8_areChoices 2 := by unfold nz_dsc; decide +kernel
set_option maxHeartbeats 4000000 in
set_option maxRecDepth 20000 in
theorem w_X8_areChoices_22 {κ : nz_C} {q : Nat → Nat} {o : Int32 × nz_S} (E : nz_Env κ q nz_tM 4 cX8_areChoices RX8 (nz_T yX8_areChoices cX8_areChoices 4 (some .boolean)) (nz_R 1 23)) (hR : nz_RI κ q nz_tM .boolean o) : ∀ (fu : Nat) (w2 : Int32) (w3 : Int32) (x : nz_S) (K : Int32 → Int32 → nz_S → Option (Int32 × nz_S)), f_X8_areChoices_22 fu w2 w3 x K = some o → (∀ (w2 : Int32) (w3 : Int32) (x : nz_S), K w2 w3 x = some o → nz_St κ q nz_tM 4 52 [(2, .int w2), (3, .int w3)] [] x) → nz_St κ q nz_tM 4 22 [(2, .int w2), (3, .int w3)] [] x := by
  intro fu
  induction fu with
  | zero => intro w2 w3 x K hf; rw [f_X8_areChoices_22] at hf; cases hf
  | succ fu ih =>
    intro w2 w3 x K hf hK
    rw [f_X8_areChoices_22] at hf
    refine nz_iload_n (pc := 22) (i := 3) E dX8_areChoices_22 rfl rfl ?_
    refine nz_if_le (pc := 23) (tgt := 52) E dX8_areChoices_23 (by decide) (fun h2 => ?_) (fun h2 => ?_)
    · have hf := nz_ite_t hf h2
      refine nz_weak (lv' := [(2, .int _), (3, .int _)]) ⟨rfl, rfl, trivial⟩ ?_
      exact hK _ _ _ hf
    · have hf := nz_ite_f hf h2
      refine nz_iload_n (pc := 26) (i := 2) E dX8_areChoices_26 rfl rfl ?_
      refine nz_if_eq (pc := 27) (tgt := 42) E dX8_areChoices_27 (by decide) (fun h3 => ?_) (fun h3 => ?_)
      · have hf := nz_ite_t hf h3
        refine nz_iconst (pc := 42) (v := 0) E dX8_areChoices_42 (by decide) ?_
        refine nz_istore_n (pc := 43) (i := 2) E dX8_areChoices_43 rfl (by decide) rfl ?_
        refine nz_iload_n (pc := 44) (i := 3) E dX8_areChoices_44 rfl rfl ?_
        refine nz_bipush (pc := 45) (v := 10) E dX8_areChoices_45 (by decide) ?_
        refine nz_idiv (pc := 47) E dX8_areChoices_47 (by decide) ?_
        refine nz_istore_n (pc := 48) (i := 3) E dX8_areChoices_48 rfl (by decide) rfl ?_
        refine nz_goto (pc := 49) (tgt := 22) E dX8_areChoices_49 (by decide) ?_
        refine nz_weak (lv' := [(2, .int _), (3, .int _)]) ⟨rfl, rfl, trivial⟩ ?_
        exact ih _ _ _ _ hf hK
      · have hf := nz_ite_f hf h3
        refine nz_iload_n (pc := 30) (i := 3) E dX8_areChoices_30 rfl rfl ?_
        refine nz_bipush (pc := 31) (v := 10) E dX8_areChoices_31 (by decide) ?_
        refine nz_irem (pc := 33) E dX8_areChoices_33 (by decide) ?_
        refine nz_iconst (pc := 34) (v := 3) E dX8_areChoices_34 (by decide) ?_
        refine nz_icmp_ge (pc := 35) (tgt := 42) E dX8_areChoices_35 (by decide) (fun h5 => ?_) (fun h5 => ?_)
        · have hf := nz_ite_t hf h5
          refine nz_iconst (pc := 42) (v := 0) E dX8_areChoices_42 (by decide) ?_
          refine nz_istore_n (pc := 43) (i := 2) E dX8_areChoices_43 rfl (by decide) rfl ?_
          refine nz_iload_n (pc := 44) (i := 3) E dX8_areChoices_44 rfl rfl ?_
          refine nz_bipush (pc := 45) (v := 10) E dX8_areChoices_45 (by decide) ?_
          refine nz_idiv (pc := 47) E dX8_areChoices_47 (by decide) ?_
          refine nz_istore_n (pc := 48) (i := 3) E dX8_areChoices_48 rfl (by decide) rfl ?_
          refine nz_goto (pc := 49) (tgt := 22) E dX8_areChoices_49 (by decide) ?_
          refine nz_weak (lv' := [(2, .int _), (3, .int _)]) ⟨rfl, rfl, trivial⟩ ?_
          exact ih _ _ _ _ hf hK
        · have hf := nz_ite_f hf h5
          refine nz_iconst (pc := 38) (v := 1) E dX8_areChoices_38 (by decide) ?_
          refine nz_goto (pc := 39) (tgt := 43) E dX8_areChoices_39 (by decide) ?_
          refine nz_istore_n (pc := 43) (i := 2) E dX8_areChoices_43 rfl (by decide) rfl ?_
          refine nz_iload_n (pc := 44) (i := 3) E dX8_areChoices_44 rfl rfl ?_
          refine nz_bipush (pc := 45) (v := 10) E dX8_areChoices_45 (by decide) ?_
          refine nz_idiv (pc := 47) E dX8_areChoices_47 (by decide) ?_
          refine nz_istore_n (pc := 48) (i := 3) E dX8_areChoices_48 rfl (by decide) rfl ?_
          refine nz_goto (pc := 49) (tgt := 22) E dX8_areChoices_49 (by decide) ?_
          refine nz_weak (lv' := [(2, .int _), (3, .int _)]) ⟨rfl, rfl, trivial⟩ ?_
          exact ih _ _ _ _ hf hK
set_option maxHeartbeats 4000000 in
set_option maxRecDepth 20000 in
theorem k_X8_areChoices {l : Launch} {w : nz_O} {q : Nat → Nat} (a0 : Int32) (a1 : Int32) (x : nz_S) (o : Int32 × nz_S) (hf : f_X8_areChoices a0 a1 x = some o) : nz_MI l yX8_areChoices (nz_T yX8_areChoices cX8_areChoices 4 (some .boolean)) (nz_R 1 23) w q nz_tM [.int a0, .int a1] x o := by
  refine nz_enterI (by decide) rfl (Nat.le_of_ble_eq_true rfl) rfl rfl ?_
  intro κ E hw hlq hR
  subst hw; subst hlq
  unfold f_X8_areChoices at hf
  refine nz_weak (lv' := [(0, .int a0), (1, .int a1)]) ⟨rfl, rfl, trivial⟩ ?_
  refine nz_iload_n (pc := 0) (i := 1) E dX8_areChoices_0 rfl rfl ?_
  refine nz_if_lt (pc := 1) (tgt := 18) E dX8_areChoices_1 (by decide) (fun h1 => ?_) (fun h1 => ?_)
  · have hf := nz_ite_t hf h1
    refine nz_iconst (pc := 18) (v := 0) E dX8_areChoices_18 (by decide) ?_
    refine nz_istore_n (pc := 19) (i := 2) E dX8_areChoices_19 rfl (by decide) rfl ?_
    refine nz_iload_n (pc := 20) (i := 1) E dX8_areChoices_20 rfl rfl ?_
    refine nz_istore_n (pc := 21) (i := 3) E dX8_areChoices_21 rfl (by decide) rfl ?_
    refine nz_weak (lv' := [(2, .int _), (3, .int _)]) ⟨rfl, rfl, trivial⟩ ?_
    refine w_X8_areChoices_22 E hR _ _ _ _ _ hf (fun u9 u10 x8 hf => ?_)
    refine nz_iload_n (pc := 52) (i := 2) E dX8_areChoices_52 rfl rfl ?_
    obtain ⟨h11, hf⟩ := nz_chk_t hf
    exact nz_iret (pc := 53) E hR (nz_narZ h11) hf dX8_areChoices_53
  · have hf := nz_ite_f hf h1
    refine nz_iload_n (pc := 4) (i := 1) E dX8_areChoices_4 rfl rfl ?_
    refine nz_bipush (pc := 5) (v := 10) E dX8_areChoices_5 (by decide) ?_
    refine nz_iload_n (pc := 7) (i := 0) E dX8_areChoices_7 rfl rfl ?_
    obtain ⟨r12, x13, h14, hf⟩ := nz_bnd_t hf
    refine nz_callSI (pc := 8) (As := [.int _, .int _]) E (k_X8_power   _ _ _ _ h14) (nz_cwS E nz_w956 nz_w957 nz_w67 nz_w958 ds_X8_power ⟨Nat.le_of_ble_eq_true rfl, Nat.le_of_ble_eq_true rfl⟩ rfl rfl) rfl rfl (Nat.le_of_ble_eq_true rfl) dX8_areChoices_8 ?_
    refine nz_icmp_ge (pc := 11) (tgt := 18) E dX8_areChoices_11 (by decide) (fun h15 => ?_) (fun h15 => ?_)
    · have hf := nz_ite_t hf h15
      refine nz_iconst (pc := 18) (v := 0) E dX8_areChoices_18 (by decide) ?_
      refine nz_istore_n (pc := 19) (i := 2) E dX8_areChoices_19 rfl (by decide) rfl ?_
      refine nz_iload_n (pc := 20) (i := 1) E dX8_areChoices_20 rfl rfl ?_
      refine nz_istore_n (pc := 21) (i := 3) E dX8_areChoices_21 rfl (by decide) rfl ?_
      refine nz_weak (lv' := [(2, .int _), (3, .int _)]) ⟨rfl, rfl, trivial⟩ ?_
      refine w_X8_areChoices_22 E hR _ _ _ _ _ hf (fun u17 u18 x16 hf => ?_)
      refine nz_iload_n (pc := 52) (i := 2) E dX8_areChoices_52 rfl rfl ?_
      obtain ⟨h19, hf⟩ := nz_chk_t hf
      exact nz_iret (pc := 53) E hR (nz_narZ h19) hf dX8_areChoices_53
    · have hf := nz_ite_f hf h15
      refine nz_iconst (pc := 14) (v := 1) E dX8_areChoices_14 (by decide) ?_
      refine nz_goto (pc := 15) (tgt := 19) E dX8_areChoices_15 (by decide) ?_
      refine nz_istore_n (pc := 19) (i := 2) E dX8_areChoices_19 rfl (by decide) rfl ?_
      refine nz_iload_n (pc := 20) (i := 1) E dX8_areChoices_20 rfl rfl ?_
      refine nz_istore_n (pc := 21) (i := 3) E dX8_areChoices_21 rfl (by decide) rfl ?_
      refine nz_weak (lv' := [(2, .int _), (3, .int _)]) ⟨rfl, rfl, trivial⟩ ?_
      refine w_X8_areChoices_22 E hR _ _ _ _ _ hf (fun u21 u22 x20 hf => ?_)
      refine nz_iload_n (pc := 52) (i := 2) E dX8_areChoices_52 rfl rfl ?_
      obtain ⟨h23, hf⟩ := nz_chk_t hf
      exact nz_iret (pc := 53) E hR (nz_narZ h23) hf dX8_areChoices_53
def f_X8_runs_7 (c2 : Int32) : Nat → Int32 → Int32 → nz_S → (Int32 → Int32 → nz_S → Option (Int32 × nz_S)) → Option (Int32 × nz_S)
  | 0, _, _, _, _ => none
  | fu + 1, w3, w4, x, K =>
  if w4 < (0 : Int32) then
    K w3 w4 x
  else
    nz_bnd (f_X8_power  (10 : Int32) w4 x) fun r3 x4 =>
    nz_chk (r3 != 0) <|
    let v7 : Int32 := (c2 / r3)
    nz_bnd (f_X8_step  w3 (v7 - v7 / (10 : Int32) * (10 : Int32)) x4) fun r8 x9 =>
    let v11 : Int32 := w4 + (-1)
    f_X8_runs_7 c2 fu r8 v11 x9 K
def f_X8_runs (a0 : Int32) (a1 : Int32) (x : nz_S) : Option (Int32 × nz_S) :=
  let v1 : Int32 := (a0 - (1 : Int32))
  f_X8_runs_7 a1 nz_F (0 : Int32) v1 x fun u13 u14 x12 =>
    some (u13, x12)
theorem ds_X8_runs : nz_dsc yX8_runs 2 := by unfold nz_dsc; decide +kernel
set_option maxHeartbeats 4000000 in
set_option maxRecDepth 20000 in
theorem w_X8_runs_7 {κ : nz_C} {q : Nat → Nat} {o : Int32 × nz_S} (c2 : Int32) (E : nz_Env κ q nz_tM 5 cX8_runs RX8 (nz_T yX8_runs cX8_runs 5 (some .int)) (nz_R 1 23)) (hR : nz_RI κ q nz_tM .int o) : ∀ (fu : Nat) (w3 : Int32) (w4 : Int32) (x : nz_S) (K : Int32 → Int32 → nz_S → Option (Int32 × nz_S)), f_X8_runs_7 c2 fu w3 w4 x K = some o → (∀ (w3 : Int32) (w4 : Int32) (x : nz_S), K w3 w4 x = some o → nz_St κ q nz_tM 5 36 [(0, .ref (q 0)), (2, .int c2), (3, .int w3), (4, .int w4)] [] x) → nz_St κ q nz_tM 5 7 [(0, .ref (q 0)), (2, .int c2), (3, .int w3), (4, .int w4)] [] x := by
  intro fu
  induction fu with
  | zero => intro w3 w4 x K hf; rw [f_X8_runs_7] at hf; cases hf
  | succ fu ih =>
    intro w3 w4 x K hf hK
    rw [f_X8_runs_7] at hf
    refine nz_iload (pc := 7) (i := 4) E dX8_runs_7 rfl ?_
    refine nz_if_lt (pc := 9) (tgt := 36) E dX8_runs_9 (by decide) (fun h2 => ?_) (fun h2 => ?_)
    · have hf := nz_ite_t hf h2
      refine nz_weak (lv' := [(0, .ref (q 0)), (2, .int _), (3, .int _), (4, .int _)]) ⟨rfl, rfl, rfl, rfl, trivial⟩ ?_
      exact hK _ _ _ hf
    · have hf := nz_ite_f hf h2
      refine nz_aload_n (pc := 12) (i := 0) E dX8_runs_12 rfl rfl ?_
      refine nz_iload_n (pc := 13) (i := 3) E dX8_runs_13 rfl rfl ?_
      refine nz_iload_n (pc := 14) (i := 2) E dX8_runs_14 rfl rfl ?_
      refine nz_bipush (pc := 15) (v := 10) E dX8_runs_15 (by decide) ?_
      refine nz_iload (pc := 17) (i := 4) E dX8_runs_17 rfl ?_
      obtain ⟨r3, x4, h5, hf⟩ := nz_bnd_t hf
      refine nz_callSI (pc := 19) (As := [.int _, .int _]) E (k_X8_power   _ _ _ _ h5) (nz_cwS E nz_w956 nz_w957 nz_w67 nz_w958 ds_X8_power ⟨Nat.le_of_ble_eq_true rfl, Nat.le_of_ble_eq_true rfl⟩ rfl rfl) rfl rfl (Nat.le_of_ble_eq_true rfl) dX8_runs_19 ?_
      obtain ⟨h6, hf⟩ := nz_chk_t hf
      refine nz_idiv (pc := 22) E dX8_runs_22 h6 ?_
      refine nz_bipush (pc := 23) (v := 10) E dX8_runs_23 (by decide) ?_
      refine nz_irem (pc := 25) E dX8_runs_25 (by decide) ?_
      obtain ⟨r8, x9, h10, hf⟩ := nz_bnd_t hf
      refine nz_callVI (pc := 26) (c0 := 0) (As := [.int _, .int _]) E rfl rfl (k_X8_step   _ _ _ _ h10) (nz_cwV E nz_w963 nz_w965 nz_w48 nz_w67 nz_w966 ds_X8_step ⟨Nat.le_of_ble_eq_true rfl, Nat.le_of_ble_eq_true rfl⟩ rfl rfl) rfl rfl (Nat.le_of_ble_eq_true rfl) dX8_runs_26 ?_
      refine nz_istore_n (pc := 29) (i := 3) E dX8_runs_29 rfl (by decide) rfl ?_
      refine nz_iinc (pc := 30) (i := 4) (w := -1) E dX8_runs_30 rfl (by decide) (by decide) rfl ?_
      refine nz_goto (pc := 33) (tgt := 7) E dX8_runs_33 (by decide) ?_
      refine nz_weak (lv' := [(0, .ref (q 0)), (2, .int _), (3, .int _), (4, .int _)]) ⟨rfl, rfl, rfl, rfl, trivial⟩ ?_
      exact ih _ _ _ _ hf hK
set_option maxHeartbeats 4000000 in
set_option maxRecDepth 20000 in
theorem k_X8_runs {l : Launch} {w : nz_O} {q : Nat → Nat} (a0 : Int32) (a1 : Int32) (x : nz_S) (o : Int32 × nz_S) (hf : f_X8_runs a0 a1 x = some o) : nz_MI l yX8_runs (nz_T yX8_runs cX8_runs 5 (some .int)) (nz_R 1 23) w q nz_tM [.ref (q 0), .int a0, .int a1] x o := by
  refine nz_enterI (by decide) rfl (Nat.le_of_ble_eq_true rfl) rfl rfl ?_
  intro κ E hw hlq hR
  subst hw; subst hlq
  unfold f_X8_runs at hf
  refine nz_weak (lv' := [(0, .ref (q 0)), (1, .int a0), (2, .int a1)]) ⟨rfl, rfl, rfl, trivial⟩ ?_
  refine nz_iconst (pc := 0) (v := 0) E dX8_runs_0 (by decide) ?_
  refine nz_istore_n (pc := 1) (i := 3) E dX8_runs_1 rfl (by decide) rfl ?_
  refine nz_iload_n (pc := 2) (i := 1) E dX8_runs_2 rfl rfl ?_
  refine nz_iconst (pc := 3) (v := 1) E dX8_runs_3 (by decide) ?_
  refine nz_isub (pc := 4) E dX8_runs_4 ?_
  refine nz_istore (pc := 5) (i := 4) E dX8_runs_5 (by decide) rfl ?_
  refine nz_weak (lv' := [(0, .ref (q 0)), (2, .int _), (3, .int _), (4, .int _)]) ⟨rfl, rfl, rfl, rfl, trivial⟩ ?_
  refine w_X8_runs_7 _ E hR _ _ _ _ _ hf (fun u13 u14 x12 hf => ?_)
  refine nz_iload_n (pc := 36) (i := 3) E dX8_runs_36 rfl rfl ?_
  exact nz_iret (pc := 37) E hR rfl hf dX8_runs_37
def f_X8_run (a0 : Int32) (a1 : Int32) (a2 : Int32) (x : nz_S) : Option (Int32 × nz_S) :=
  let x1 : nz_S := nz_put x 0 0 (0 : Int32)
  nz_chk (nz_in (0 : Int32) 61) <|
  if (x1.1 3 ((0 : Int32)).toNatClampNeg) = (0 : Int32) then
    some ((-3 : Int32), x1)
  else
    nz_bnd (f_X8_in  (a0).toInt64 (0 : Int64) (8 : Int64) x1) fun r4 x5 =>
    if r4 = (0 : Int32) then
      some ((-2 : Int32), x5)
    else
      nz_bnd (f_X8_areChoices  a0 a1 x5) fun r8 x9 =>
      if r8 = (0 : Int32) then
        some ((-2 : Int32), x9)
      else
        nz_bnd (f_X8_in  (a2).toInt64 (0 : Int64) (1 : Int64) x9) fun r12 x13 =>
        if r12 = (0 : Int32) then
          some ((-2 : Int32), x13)
        else
          nz_bnd (f_X8_runs  a0 a1 x13) fun r16 x17 =>
          if a2 = (0 : Int32) then
            some (r16, x17)
          else
            let v20 : Int32 := ((1 : Int32) + r16)
            nz_chk (nz_in v20 61) <|
            some ((x17.1 3 (v20).toNatClampNeg), x17)
theorem ds_X8_run : nz_dsc yX8_run 3 := by unfold nz_dsc; decide +kernel
set_option maxHeartbeats 4000000 in
set_option maxRecDepth 20000 in
theorem k_X8_run {l : Launch} {w : nz_O} {q : Nat → Nat} (a0 : Int32) (a1 : Int32) (a2 : Int32) (x : nz_S) (o : Int32 × nz_S) (hf : f_X8_run a0 a1 a2 x = some o) : nz_MI l yX8_run (nz_T yX8_run cX8_run 5 (some .int)) (nz_R 2 47) w q nz_tM [.ref (q 0), .int a0, .int a1, .int a2] x o := by
  refine nz_enterI (by decide) rfl (Nat.le_of_ble_eq_true rfl) rfl rfl ?_
  intro κ E hw hlq hR
  subst hw; subst hlq
  unfold f_X8_run at hf
  refine nz_weak (lv' := [(0, .ref (q 0)), (1, .int a0), (2, .int a1), (3, .int a2)]) ⟨rfl, rfl, rfl, rfl, trivial⟩ ?_
  refine nz_aload_n (pc := 0) (i := 0) E dX8_run_0 rfl rfl ?_
  refine nz_iconst (pc := 1) (v := 0) E dX8_run_1 (by decide) ?_
  refine nz_putI (pc := 2) (c := 0) (kf := 0) E rfl rfl (nz_upT nz_uX8) (by decide) (List.mem_cons_of_mem _ nz_w676) rfl tyX8 tyX8_ok nmX8 rfl (tyX8_ok 0 (by decide)) rfl dX8_run_2 ?_
  refine nz_aload_n (pc := 5) (i := 0) E dX8_run_5 rfl rfl ?_
  refine nz_getR (pc := 6) (c := 0) (kf := 5) E rfl rfl (nz_upT nz_uX8) (by decide) (List.mem_cons_of_mem _ nz_w681) rfl rfl dX8_run_6 ?_
  refine nz_iconst (pc := 9) (v := 0) E dX8_run_9 (by decide) ?_
  obtain ⟨h2, hf⟩ := nz_chk_t hf
  refine nz_iald (pc := 10) (c := 3) E rfl h2 dX8_run_10 ?_
  refine nz_if_ne (pc := 11) (tgt := 17) E dX8_run_11 (by decide) (fun h3 => ?_) (fun h3 => ?_)
  · have hf := nz_ite_f hf h3
    refine nz_iload_n (pc := 17) (i := 1) E dX8_run_17 rfl rfl ?_
    refine nz_i2l (pc := 18) E dX8_run_18 ?_
    refine nz_lconst (pc := 19) (v := 0) E dX8_run_19 (by decide) ?_
    refine nz_ldc2 (pc := 20) E (List.mem_cons_of_mem _ nz_w785) dX8_run_20 ?_
    obtain ⟨r4, x5, h6, hf⟩ := nz_bnd_t hf
    refine nz_callSI (pc := 23) (As := [.long _, .long _, .long _]) E (k_X8_in   _ _ _ _ _ h6) (nz_cwS E nz_w766 nz_w767 nz_w67 nz_w768 ds_X8_in ⟨Nat.le_of_ble_eq_true rfl, Nat.le_of_ble_eq_true rfl⟩ rfl rfl) rfl rfl (Nat.le_of_ble_eq_true rfl) dX8_run_23 ?_
    refine nz_if_eq (pc := 26) (tgt := 47) E dX8_run_26 (by decide) (fun h7 => ?_) (fun h7 => ?_)
    · have hf := nz_ite_t hf h7
      refine nz_bipush (pc := 47) (v := -2) E dX8_run_47 (by decide) ?_
      exact nz_iret (pc := 49) E hR rfl hf dX8_run_49
    · have hf := nz_ite_f hf h7
      refine nz_iload_n (pc := 29) (i := 1) E dX8_run_29 rfl rfl ?_
      refine nz_iload_n (pc := 30) (i := 2) E dX8_run_30 rfl rfl ?_
      obtain ⟨r8, x9, h10, hf⟩ := nz_bnd_t hf
      refine nz_callSI (pc := 31) (As := [.int _, .int _]) E (k_X8_areChoices   _ _ _ _ h10) (nz_cwS E nz_w953 nz_w954 nz_w67 nz_w955 ds_X8_areChoices ⟨Nat.le_of_ble_eq_true rfl, Nat.le_of_ble_eq_true rfl⟩ rfl rfl) rfl rfl (Nat.le_of_ble_eq_true rfl) dX8_run_31 ?_
      refine nz_if_eq (pc := 34) (tgt := 47) E dX8_run_34 (by decide) (fun h11 => ?_) (fun h11 => ?_)
      · have hf := nz_ite_t hf h11
        refine nz_bipush (pc := 47) (v := -2) E dX8_run_47 (by decide) ?_
        exact nz_iret (pc := 49) E hR rfl hf dX8_run_49
      · have hf := nz_ite_f hf h11
        refine nz_iload_n (pc := 37) (i := 3) E dX8_run_37 rfl rfl ?_
        refine nz_i2l (pc := 38) E dX8_run_38 ?_
        refine nz_lconst (pc := 39) (v := 0) E dX8_run_39 (by decide) ?_
        refine nz_lconst (pc := 40) (v := 1) E dX8_run_40 (by decide) ?_
        obtain ⟨r12, x13, h14, hf⟩ := nz_bnd_t hf
        refine nz_callSI (pc := 41) (As := [.long _, .long _, .long _]) E (k_X8_in   _ _ _ _ _ h14) (nz_cwS E nz_w766 nz_w767 nz_w67 nz_w768 ds_X8_in ⟨Nat.le_of_ble_eq_true rfl, Nat.le_of_ble_eq_true rfl⟩ rfl rfl) rfl rfl (Nat.le_of_ble_eq_true rfl) dX8_run_41 ?_
        refine nz_if_ne (pc := 44) (tgt := 50) E dX8_run_44 (by decide) (fun h15 => ?_) (fun h15 => ?_)
        · have hf := nz_ite_f hf h15
          refine nz_aload_n (pc := 50) (i := 0) E dX8_run_50 rfl rfl ?_
          refine nz_iload_n (pc := 51) (i := 1) E dX8_run_51 rfl rfl ?_
          refine nz_iload_n (pc := 52) (i := 2) E dX8_run_52 rfl rfl ?_
          obtain ⟨r16, x17, h18, hf⟩ := nz_bnd_t hf
          refine nz_callVI (pc := 53) (c0 := 0) (As := [.int _, .int _]) E rfl rfl (k_X8_runs   _ _ _ _ h18) (nz_cwV E nz_w959 nz_w961 nz_w47 nz_w67 nz_w962 ds_X8_runs ⟨Nat.le_of_ble_eq_true rfl, Nat.le_of_ble_eq_true rfl⟩ rfl rfl) rfl rfl (Nat.le_of_ble_eq_true rfl) dX8_run_53 ?_
          refine nz_istore (pc := 56) (i := 4) E dX8_run_56 (by decide) rfl ?_
          refine nz_iload_n (pc := 58) (i := 3) E dX8_run_58 rfl rfl ?_
          refine nz_if_ne (pc := 59) (tgt := 67) E dX8_run_59 (by decide) (fun h19 => ?_) (fun h19 => ?_)
          · have hf := nz_ite_f hf h19
            refine nz_aload_n (pc := 67) (i := 0) E dX8_run_67 rfl rfl ?_
            refine nz_getR (pc := 68) (c := 0) (kf := 5) E rfl rfl (nz_upT nz_uX8) (by decide) (List.mem_cons_of_mem _ nz_w681) rfl rfl dX8_run_68 ?_
            refine nz_iconst (pc := 71) (v := 1) E dX8_run_71 (by decide) ?_
            refine nz_iload (pc := 72) (i := 4) E dX8_run_72 rfl ?_
            refine nz_iadd (pc := 74) E dX8_run_74 ?_
            obtain ⟨h21, hf⟩ := nz_chk_t hf
            refine nz_iald (pc := 75) (c := 3) E rfl h21 dX8_run_75 ?_
            exact nz_iret (pc := 76) E hR rfl hf dX8_run_76
          · have hf := nz_ite_t hf h19
            refine nz_iload (pc := 62) (i := 4) E dX8_run_62 rfl ?_
            refine nz_goto (pc := 64) (tgt := 76) E dX8_run_64 (by decide) ?_
            exact nz_iret (pc := 76) E hR rfl hf dX8_run_76
        · have hf := nz_ite_t hf h15
          refine nz_bipush (pc := 47) (v := -2) E dX8_run_47 (by decide) ?_
          exact nz_iret (pc := 49) E hR rfl hf dX8_run_49
  · have hf := nz_ite_t hf h3
    refine nz_bipush (pc := 14) (v := -3) E dX8_run_14 (by decide) ?_
    exact nz_iret (pc := 16) E hR rfl hf dX8_run_16
def f_X8_begin_2 : Nat → Int32 → nz_S → (Int32 → nz_S → Option (Unit × nz_S)) → Option (Unit × nz_S)
  | 0, _, _, _ => none
  | fu + 1, w1, x, K =>
  if (61 : Int32) ≤ w1 then
    K w1 x
  else
    nz_chk (nz_in w1 61) <|
    nz_chk (nz_in w1 61) <|
    let x4 : nz_S := nz_put x 4 (w1).toNatClampNeg (x.1 3 (w1).toNatClampNeg)
    let v5 : Int32 := w1 + 1
    f_X8_begin_2 fu v5 x4 K
def f_X8_begin (x : nz_S) : Option (Unit × nz_S) :=
  f_X8_begin_2 nz_F (0 : Int32) x fun u7 x6 =>
    some ((), x6)
theorem ds_X8_begin : nz_dsc yX8_begin 0 := by unfold nz_dsc; decide +kernel
set_option maxHeartbeats 4000000 in
set_option maxRecDepth 20000 in
theorem w_X8_begin_2 {κ : nz_C} {q : Nat → Nat} {o : Unit × nz_S} (E : nz_Env κ q nz_tM 2 cX8_begin RX8 (nz_T yX8_begin cX8_begin 2 (none)) (nz_R 0 0)) (hR : nz_RV κ q nz_tM o) : ∀ (fu : Nat) (w1 : Int32) (x : nz_S) (K : Int32 → nz_S → Option (Unit × nz_S)), f_X8_begin_2 fu w1 x K = some o → (∀ (w1 : Int32) (x : nz_S), K w1 x = some o → nz_St κ q nz_tM 2 26 [(0, .ref (q 0)), (1, .int w1)] [] x) → nz_St κ q nz_tM 2 2 [(0, .ref (q 0)), (1, .int w1)] [] x := by
  intro fu
  induction fu with
  | zero => intro w1 x K hf; rw [f_X8_begin_2] at hf; cases hf
  | succ fu ih =>
    intro w1 x K hf hK
    rw [f_X8_begin_2] at hf
    refine nz_iload_n (pc := 2) (i := 1) E dX8_begin_2 rfl rfl ?_
    refine nz_bipush (pc := 3) (v := 61) E dX8_begin_3 (by decide) ?_
    refine nz_icmp_ge (pc := 5) (tgt := 26) E dX8_begin_5 (by decide) (fun h1 => ?_) (fun h1 => ?_)
    · have hf := nz_ite_t hf h1
      refine nz_weak (lv' := [(0, .ref (q 0)), (1, .int _)]) ⟨rfl, rfl, trivial⟩ ?_
      exact hK _ _ hf
    · have hf := nz_ite_f hf h1
      refine nz_aload_n (pc := 8) (i := 0) E dX8_begin_8 rfl rfl ?_
      refine nz_getR (pc := 9) (c := 0) (kf := 6) E rfl rfl (nz_upT nz_uX8) (by decide) (List.mem_cons_of_mem _ nz_w682) rfl rfl dX8_begin_9 ?_
      refine nz_iload_n (pc := 12) (i := 1) E dX8_begin_12 rfl rfl ?_
      refine nz_aload_n (pc := 13) (i := 0) E dX8_begin_13 rfl rfl ?_
      refine nz_getR (pc := 14) (c := 0) (kf := 5) E rfl rfl (nz_upT nz_uX8) (by decide) (List.mem_cons_of_mem _ nz_w681) rfl rfl dX8_begin_14 ?_
      refine nz_iload_n (pc := 17) (i := 1) E dX8_begin_17 rfl rfl ?_
      obtain ⟨h2, hf⟩ := nz_chk_t hf
      refine nz_iald (pc := 18) (c := 3) E rfl h2 dX8_begin_18 ?_
      obtain ⟨h3, hf⟩ := nz_chk_t hf
      refine nz_iast (pc := 19) (c := 4) E rfl h3 dX8_begin_19 ?_
      refine nz_iinc (pc := 20) (i := 1) (w := 1) E dX8_begin_20 rfl (by decide) (by decide) rfl ?_
      refine nz_goto (pc := 23) (tgt := 2) E dX8_begin_23 (by decide) ?_
      refine nz_weak (lv' := [(0, .ref (q 0)), (1, .int _)]) ⟨rfl, rfl, trivial⟩ ?_
      exact ih _ _ _ hf hK
set_option maxHeartbeats 4000000 in
set_option maxRecDepth 20000 in
theorem k_X8_begin {l : Launch} {w : nz_O} {q : Nat → Nat} (x : nz_S) (o : Unit × nz_S) (hf : f_X8_begin x = some o) : nz_MV l yX8_begin (nz_T yX8_begin cX8_begin 2 (none)) (nz_R 0 0) w q nz_tM [.ref (q 0)] x o := by
  refine nz_enterV (by decide) rfl (Nat.le_of_ble_eq_true rfl) rfl rfl ?_
  intro κ E hw hlq hR
  subst hw; subst hlq
  unfold f_X8_begin at hf
  refine nz_weak (lv' := [(0, .ref (q 0))]) ⟨rfl, trivial⟩ ?_
  refine nz_iconst (pc := 0) (v := 0) E dX8_begin_0 (by decide) ?_
  refine nz_istore_n (pc := 1) (i := 1) E dX8_begin_1 rfl (by decide) rfl ?_
  refine nz_weak (lv' := [(0, .ref (q 0)), (1, .int _)]) ⟨rfl, rfl, trivial⟩ ?_
  refine w_X8_begin_2 E hR _ _ _ _ hf (fun u7 x6 hf => ?_)
  exact nz_vret (pc := 26) E hR hf dX8_begin_26
def f_X8_would (a0 : Int32) (x : nz_S) : Option (Int32 × nz_S) :=
  let x1 : nz_S := nz_put x 0 0 (0 : Int32)
  nz_bnd (f_X8_in  (a0).toInt64 (0 : Int64) (2 : Int64) x1) fun r2 x3 =>
  if r2 = (0 : Int32) then
    some ((-2 : Int32), x3)
  else
    nz_bnd (f_X8_begin   x3) fun r6 x7 =>
    nz_bnd (f_X8_goMend 4  x7) fun r9 x10 =>
    if a0 = (0 : Int32) then
      some (r9, x10)
    else
      nz_bnd (f_X8_find 4  x10) fun r13 x14 =>
      if a0 = (1 : Int32) then
        nz_chk (nz_in (0 : Int32) 61) <|
        some ((x14.1 4 ((0 : Int32)).toNatClampNeg), x14)
      else
        nz_bnd (f_X8_worst   x14) fun r17 x18 =>
        if r17 = (-9 : Int32) then
          some ((1 : Int32), x18)
        else
          some ((0 : Int32), x18)
theorem ds_X8_would : nz_dsc yX8_would 1 := by unfold nz_dsc; decide +kernel
set_option maxHeartbeats 4000000 in
set_option maxRecDepth 20000 in
theorem k_X8_would {l : Launch} {w : nz_O} {q : Nat → Nat} (a0 : Int32) (x : nz_S) (o : Int32 × nz_S) (hf : f_X8_would a0 x = some o) : nz_MI l yX8_would (nz_T yX8_would cX8_would 3 (some .int)) (nz_R 7 171) w q nz_tM [.ref (q 0), .int a0] x o := by
  refine nz_enterI (by decide) rfl (Nat.le_of_ble_eq_true rfl) rfl rfl ?_
  intro κ E hw hlq hR
  subst hw; subst hlq
  unfold f_X8_would at hf
  refine nz_weak (lv' := [(0, .ref (q 0)), (1, .int a0)]) ⟨rfl, rfl, trivial⟩ ?_
  refine nz_aload_n (pc := 0) (i := 0) E dX8_would_0 rfl rfl ?_
  refine nz_iconst (pc := 1) (v := 0) E dX8_would_1 (by decide) ?_
  refine nz_putI (pc := 2) (c := 0) (kf := 0) E rfl rfl (nz_upT nz_uX8) (by decide) (List.mem_cons_of_mem _ nz_w676) rfl tyX8 tyX8_ok nmX8 rfl (tyX8_ok 0 (by decide)) rfl dX8_would_2 ?_
  refine nz_iload_n (pc := 5) (i := 1) E dX8_would_5 rfl rfl ?_
  refine nz_i2l (pc := 6) E dX8_would_6 ?_
  refine nz_lconst (pc := 7) (v := 0) E dX8_would_7 (by decide) ?_
  refine nz_ldc2 (pc := 8) E (List.mem_cons_of_mem _ nz_w971) dX8_would_8 ?_
  obtain ⟨r2, x3, h4, hf⟩ := nz_bnd_t hf
  refine nz_callSI (pc := 11) (As := [.long _, .long _, .long _]) E (k_X8_in   _ _ _ _ _ h4) (nz_cwS E nz_w766 nz_w767 nz_w67 nz_w768 ds_X8_in ⟨Nat.le_of_ble_eq_true rfl, Nat.le_of_ble_eq_true rfl⟩ rfl rfl) rfl rfl (Nat.le_of_ble_eq_true rfl) dX8_would_11 ?_
  refine nz_if_ne (pc := 14) (tgt := 20) E dX8_would_14 (by decide) (fun h5 => ?_) (fun h5 => ?_)
  · have hf := nz_ite_f hf h5
    refine nz_aload_n (pc := 20) (i := 0) E dX8_would_20 rfl rfl ?_
    obtain ⟨r6, x7, h8, hf⟩ := nz_bnd_t hf
    refine nz_callVV (pc := 21) (c0 := 0) (As := []) E rfl rfl (k_X8_begin   _ _ h8) (nz_cwV E nz_w972 nz_w974 nz_w49 nz_w67 nz_w975 ds_X8_begin ⟨Nat.le_of_ble_eq_true rfl, Nat.le_of_ble_eq_true rfl⟩ rfl rfl) rfl rfl (Nat.le_of_ble_eq_true rfl) dX8_would_21 ?_
    refine nz_aload_n (pc := 24) (i := 0) E dX8_would_24 rfl rfl ?_
    refine nz_aload_n (pc := 25) (i := 0) E dX8_would_25 rfl rfl ?_
    refine nz_getR (pc := 26) (c := 0) (kf := 6) E rfl rfl (nz_upT nz_uX8) (by decide) (List.mem_cons_of_mem _ nz_w682) rfl rfl dX8_would_26 ?_
    obtain ⟨r9, x10, h11, hf⟩ := nz_bnd_t hf
    refine nz_callVI (pc := 29) (c0 := 0) (As := [.ref (q 4)]) E rfl rfl (k_X8_goMend 4 nz_p4 _ _ h11) (nz_cwV E nz_w933 nz_w935 nz_w44 nz_w67 nz_w936 ds_X8_goMend ⟨Nat.le_of_ble_eq_true rfl, Nat.le_of_ble_eq_true rfl⟩ rfl rfl) rfl rfl (Nat.le_of_ble_eq_true rfl) dX8_would_29 ?_
    refine nz_istore_n (pc := 32) (i := 2) E dX8_would_32 rfl (by decide) rfl ?_
    refine nz_iload_n (pc := 33) (i := 1) E dX8_would_33 rfl rfl ?_
    refine nz_if_ne (pc := 34) (tgt := 39) E dX8_would_34 (by decide) (fun h12 => ?_) (fun h12 => ?_)
    · have hf := nz_ite_f hf h12
      refine nz_aload_n (pc := 39) (i := 0) E dX8_would_39 rfl rfl ?_
      refine nz_aload_n (pc := 40) (i := 0) E dX8_would_40 rfl rfl ?_
      refine nz_getR (pc := 41) (c := 0) (kf := 6) E rfl rfl (nz_upT nz_uX8) (by decide) (List.mem_cons_of_mem _ nz_w682) rfl rfl dX8_would_41 ?_
      obtain ⟨r13, x14, h15, hf⟩ := nz_bnd_t hf
      refine nz_callVV (pc := 44) (c0 := 0) (As := [.ref (q 4)]) E rfl rfl (k_X8_find 4 nz_p4 _ _ h15) (nz_cwV E nz_w800 nz_w802 nz_w24 nz_w67 nz_w803 ds_X8_find ⟨Nat.le_of_ble_eq_true rfl, Nat.le_of_ble_eq_true rfl⟩ rfl rfl) rfl rfl (Nat.le_of_ble_eq_true rfl) dX8_would_44 ?_
      refine nz_iload_n (pc := 47) (i := 1) E dX8_would_47 rfl rfl ?_
      refine nz_iconst (pc := 48) (v := 1) E dX8_would_48 (by decide) ?_
      refine nz_icmp_ne (pc := 49) (tgt := 61) E dX8_would_49 (by decide) (fun h16 => ?_) (fun h16 => ?_)
      · have hf := nz_ite_f hf h16
        refine nz_aload_n (pc := 61) (i := 0) E dX8_would_61 rfl rfl ?_
        obtain ⟨r17, x18, h19, hf⟩ := nz_bnd_t hf
        refine nz_callVI (pc := 62) (c0 := 0) (As := []) E rfl rfl (k_X8_worst   _ _ h19) (nz_cwV E nz_w929 nz_w931 nz_w43 nz_w67 nz_w932 ds_X8_worst ⟨Nat.le_of_ble_eq_true rfl, Nat.le_of_ble_eq_true rfl⟩ rfl rfl) rfl rfl (Nat.le_of_ble_eq_true rfl) dX8_would_62 ?_
        refine nz_bipush (pc := 65) (v := -9) E dX8_would_65 (by decide) ?_
        refine nz_icmp_ne (pc := 67) (tgt := 74) E dX8_would_67 (by decide) (fun h20 => ?_) (fun h20 => ?_)
        · have hf := nz_ite_f hf h20
          refine nz_iconst (pc := 74) (v := 0) E dX8_would_74 (by decide) ?_
          exact nz_iret (pc := 75) E hR rfl hf dX8_would_75
        · have hf := nz_ite_t hf h20
          refine nz_iconst (pc := 70) (v := 1) E dX8_would_70 (by decide) ?_
          refine nz_goto (pc := 71) (tgt := 75) E dX8_would_71 (by decide) ?_
          exact nz_iret (pc := 75) E hR rfl hf dX8_would_75
      · have hf := nz_ite_t hf h16
        refine nz_aload_n (pc := 52) (i := 0) E dX8_would_52 rfl rfl ?_
        refine nz_getR (pc := 53) (c := 0) (kf := 6) E rfl rfl (nz_upT nz_uX8) (by decide) (List.mem_cons_of_mem _ nz_w682) rfl rfl dX8_would_53 ?_
        refine nz_iconst (pc := 56) (v := 0) E dX8_would_56 (by decide) ?_
        obtain ⟨h21, hf⟩ := nz_chk_t hf
        refine nz_iald (pc := 57) (c := 4) E rfl h21 dX8_would_57 ?_
        refine nz_goto (pc := 58) (tgt := 75) E dX8_would_58 (by decide) ?_
        exact nz_iret (pc := 75) E hR rfl hf dX8_would_75
    · have hf := nz_ite_t hf h12
      refine nz_iload_n (pc := 37) (i := 2) E dX8_would_37 rfl rfl ?_
      exact nz_iret (pc := 38) E hR rfl hf dX8_would_38
  · have hf := nz_ite_t hf h5
    refine nz_bipush (pc := 17) (v := -2) E dX8_would_17 (by decide) ?_
    exact nz_iret (pc := 19) E hR rfl hf dX8_would_19
def f_X8_longPower_5 (c0 : Int64) (c2 : Int32) : Nat → Int64 → Int32 → nz_S → (Int64 → Int32 → nz_S → Option (Int64 × nz_S)) → Option (Int64 × nz_S)
  | 0, _, _, _, _ => none
  | fu + 1, w3, w5, x, K =>
  if c2 ≤ w5 then
    K w3 w5 x
  else
    let v2 : Int64 := (w3 * c0)
    let v3 : Int32 := w5 + 1
    f_X8_longPower_5 c0 c2 fu v2 v3 x K
def f_X8_longPower (a0 : Int64) (a1 : Int32) (x : nz_S) : Option (Int64 × nz_S) :=
  f_X8_longPower_5 a0 a1 nz_F (1 : Int64) (0 : Int32) x fun u5 u6 x4 =>
    some (u5, x4)
theorem ds_X8_longPower : nz_dsc yX8_longPower 2 := by unfold nz_dsc; decide +kernel
set_option maxHeartbeats 4000000 in
set_option maxRecDepth 20000 in
theorem w_X8_longPower_5 {κ : nz_C} {q : Nat → Nat} {o : Int64 × nz_S} (c0 : Int64) (c2 : Int32) (E : nz_Env κ q nz_tM 6 cX8_longPower RX8 (nz_T yX8_longPower cX8_longPower 6 (some .long)) (nz_R 0 0)) (hR : nz_RL κ q nz_tM o) : ∀ (fu : Nat) (w3 : Int64) (w5 : Int32) (x : nz_S) (K : Int64 → Int32 → nz_S → Option (Int64 × nz_S)), f_X8_longPower_5 c0 c2 fu w3 w5 x K = some o → (∀ (w3 : Int64) (w5 : Int32) (x : nz_S), K w3 w5 x = some o → nz_St κ q nz_tM 6 21 [(0, .long c0), (2, .int c2), (3, .long w3), (5, .int w5)] [] x) → nz_St κ q nz_tM 6 5 [(0, .long c0), (2, .int c2), (3, .long w3), (5, .int w5)] [] x := by
  intro fu
  induction fu with
  | zero => intro w3 w5 x K hf; rw [f_X8_longPower_5] at hf; cases hf
  | succ fu ih =>
    intro w3 w5 x K hf hK
    rw [f_X8_longPower_5] at hf
    refine nz_iload (pc := 5) (i := 5) E dX8_longPower_5 rfl ?_
    refine nz_iload_n (pc := 7) (i := 2) E dX8_longPower_7 rfl rfl ?_
    refine nz_icmp_ge (pc := 8) (tgt := 21) E dX8_longPower_8 (by decide) (fun h1 => ?_) (fun h1 => ?_)
    · have hf := nz_ite_t hf h1
      refine nz_weak (lv' := [(0, .long _), (2, .int _), (3, .long _), (5, .int _)]) ⟨rfl, rfl, rfl, rfl, trivial⟩ ?_
      exact hK _ _ _ hf
    · have hf := nz_ite_f hf h1
      refine nz_lload_n (pc := 11) (i := 3) E dX8_longPower_11 rfl rfl ?_
      refine nz_lload_n (pc := 12) (i := 0) E dX8_longPower_12 rfl rfl ?_
      refine nz_lmul (pc := 13) E dX8_longPower_13 ?_
      refine nz_lstore_n (pc := 14) (i := 3) E dX8_longPower_14 rfl (by decide) rfl rfl ?_
      refine nz_iinc (pc := 15) (i := 5) (w := 1) E dX8_longPower_15 rfl (by decide) (by decide) rfl ?_
      refine nz_goto (pc := 18) (tgt := 5) E dX8_longPower_18 (by decide) ?_
      refine nz_weak (lv' := [(0, .long _), (2, .int _), (3, .long _), (5, .int _)]) ⟨rfl, rfl, rfl, rfl, trivial⟩ ?_
      exact ih _ _ _ _ hf hK
set_option maxHeartbeats 4000000 in
set_option maxRecDepth 20000 in
theorem k_X8_longPower {l : Launch} {w : nz_O} {q : Nat → Nat} (a0 : Int64) (a1 : Int32) (x : nz_S) (o : Int64 × nz_S) (hf : f_X8_longPower a0 a1 x = some o) : nz_ML l yX8_longPower (nz_T yX8_longPower cX8_longPower 6 (some .long)) (nz_R 0 0) w q nz_tM [.long a0, .int a1] x o := by
  refine nz_enterL (by decide) rfl (Nat.le_of_ble_eq_true rfl) rfl rfl ?_
  intro κ E hw hlq hR
  subst hw; subst hlq
  unfold f_X8_longPower at hf
  refine nz_weak (lv' := [(0, .long a0), (2, .int a1)]) ⟨rfl, rfl, trivial⟩ ?_
  refine nz_lconst (pc := 0) (v := 1) E dX8_longPower_0 (by decide) ?_
  refine nz_lstore_n (pc := 1) (i := 3) E dX8_longPower_1 rfl (by decide) rfl rfl ?_
  refine nz_iconst (pc := 2) (v := 0) E dX8_longPower_2 (by decide) ?_
  refine nz_istore (pc := 3) (i := 5) E dX8_longPower_3 (by decide) rfl ?_
  refine nz_weak (lv' := [(0, .long _), (2, .int _), (3, .long _), (5, .int _)]) ⟨rfl, rfl, rfl, rfl, trivial⟩ ?_
  refine w_X8_longPower_5 _ _ E hR _ _ _ _ _ hf (fun u5 u6 x4 hf => ?_)
  refine nz_lload_n (pc := 21) (i := 3) E dX8_longPower_21 rfl rfl ?_
  exact nz_lret (pc := 22) E hR hf dX8_longPower_22
def f_X8_adds (a0 : Int32) (a1 : Int32) (x : nz_S) : Option (Int32 × nz_S) :=
  nz_chk (nz_in (0 : Int32) 61) <|
  if (x.1 4 ((0 : Int32)).toNatClampNeg) ≤ a0 then
    some ((0 : Int32), x)
  else
    nz_chk (nz_in (0 : Int32) 61) <|
    if (x.1 4 ((0 : Int32)).toNatClampNeg) ≤ a1 then
      some ((0 : Int32), x)
    else
      let v7 : Int32 := ((13 : Int32) + a0)
      nz_chk (nz_in v7 61) <|
      if (3 : Int32) ≤ (x.1 4 (v7).toNatClampNeg) then
        some ((0 : Int32), x)
      else
        nz_bnd (f_X8_goAdd 4 a0 a1 x) fun r12 x13 =>
        some ((1 : Int32), x13)
theorem ds_X8_adds : nz_dsc yX8_adds 2 := by unfold nz_dsc; decide +kernel
set_option maxHeartbeats 4000000 in
set_option maxRecDepth 20000 in
theorem k_X8_adds {l : Launch} {w : nz_O} {q : Nat → Nat} (a0 : Int32) (a1 : Int32) (x : nz_S) (o : Int32 × nz_S) (hf : f_X8_adds a0 a1 x = some o) : nz_MI l yX8_adds (nz_T yX8_adds cX8_adds 4 (some .boolean)) (nz_R 1 22) w q nz_tM [.ref (q 0), .int a0, .int a1] x o := by
  refine nz_enterI (by decide) rfl (Nat.le_of_ble_eq_true rfl) rfl rfl ?_
  intro κ E hw hlq hR
  subst hw; subst hlq
  unfold f_X8_adds at hf
  refine nz_weak (lv' := [(0, .ref (q 0)), (1, .int a0), (2, .int a1)]) ⟨rfl, rfl, rfl, trivial⟩ ?_
  refine nz_iload_n (pc := 0) (i := 1) E dX8_adds_0 rfl rfl ?_
  refine nz_aload_n (pc := 1) (i := 0) E dX8_adds_1 rfl rfl ?_
  refine nz_getR (pc := 2) (c := 0) (kf := 6) E rfl rfl (nz_upT nz_uX8) (by decide) (List.mem_cons_of_mem _ nz_w682) rfl rfl dX8_adds_2 ?_
  refine nz_iconst (pc := 5) (v := 0) E dX8_adds_5 (by decide) ?_
  obtain ⟨h1, hf⟩ := nz_chk_t hf
  refine nz_iald (pc := 6) (c := 4) E rfl h1 dX8_adds_6 ?_
  refine nz_icmp_ge (pc := 7) (tgt := 37) E dX8_adds_7 (by decide) (fun h2 => ?_) (fun h2 => ?_)
  · have hf := nz_ite_t hf h2
    refine nz_iconst (pc := 37) (v := 0) E dX8_adds_37 (by decide) ?_
    refine nz_istore_n (pc := 38) (i := 3) E dX8_adds_38 rfl (by decide) rfl ?_
    refine nz_iload_n (pc := 39) (i := 3) E dX8_adds_39 rfl rfl ?_
    refine nz_if_eq (pc := 40) (tgt := 52) E dX8_adds_40 (by decide) (fun h3 => ?_) (fun h3 => absurd h3 (by decide))
    refine nz_iload_n (pc := 52) (i := 3) E dX8_adds_52 rfl rfl ?_
    exact nz_iret (pc := 53) E hR rfl hf dX8_adds_53
  · have hf := nz_ite_f hf h2
    refine nz_iload_n (pc := 10) (i := 2) E dX8_adds_10 rfl rfl ?_
    refine nz_aload_n (pc := 11) (i := 0) E dX8_adds_11 rfl rfl ?_
    refine nz_getR (pc := 12) (c := 0) (kf := 6) E rfl rfl (nz_upT nz_uX8) (by decide) (List.mem_cons_of_mem _ nz_w682) rfl rfl dX8_adds_12 ?_
    refine nz_iconst (pc := 15) (v := 0) E dX8_adds_15 (by decide) ?_
    obtain ⟨h4, hf⟩ := nz_chk_t hf
    refine nz_iald (pc := 16) (c := 4) E rfl h4 dX8_adds_16 ?_
    refine nz_icmp_ge (pc := 17) (tgt := 37) E dX8_adds_17 (by decide) (fun h5 => ?_) (fun h5 => ?_)
    · have hf := nz_ite_t hf h5
      refine nz_iconst (pc := 37) (v := 0) E dX8_adds_37 (by decide) ?_
      refine nz_istore_n (pc := 38) (i := 3) E dX8_adds_38 rfl (by decide) rfl ?_
      refine nz_iload_n (pc := 39) (i := 3) E dX8_adds_39 rfl rfl ?_
      refine nz_if_eq (pc := 40) (tgt := 52) E dX8_adds_40 (by decide) (fun h6 => ?_) (fun h6 => absurd h6 (by decide))
      refine nz_iload_n (pc := 52) (i := 3) E dX8_adds_52 rfl rfl ?_
      exact nz_iret (pc := 53) E hR rfl hf dX8_adds_53
    · have hf := nz_ite_f hf h5
      refine nz_aload_n (pc := 20) (i := 0) E dX8_adds_20 rfl rfl ?_
      refine nz_getR (pc := 21) (c := 0) (kf := 6) E rfl rfl (nz_upT nz_uX8) (by decide) (List.mem_cons_of_mem _ nz_w682) rfl rfl dX8_adds_21 ?_
      refine nz_bipush (pc := 24) (v := 13) E dX8_adds_24 (by decide) ?_
      refine nz_iload_n (pc := 26) (i := 1) E dX8_adds_26 rfl rfl ?_
      refine nz_iadd (pc := 27) E dX8_adds_27 ?_
      obtain ⟨h8, hf⟩ := nz_chk_t hf
      refine nz_iald (pc := 28) (c := 4) E rfl h8 dX8_adds_28 ?_
      refine nz_iconst (pc := 29) (v := 3) E dX8_adds_29 (by decide) ?_
      refine nz_icmp_ge (pc := 30) (tgt := 37) E dX8_adds_30 (by decide) (fun h9 => ?_) (fun h9 => ?_)
      · have hf := nz_ite_t hf h9
        refine nz_iconst (pc := 37) (v := 0) E dX8_adds_37 (by decide) ?_
        refine nz_istore_n (pc := 38) (i := 3) E dX8_adds_38 rfl (by decide) rfl ?_
        refine nz_iload_n (pc := 39) (i := 3) E dX8_adds_39 rfl rfl ?_
        refine nz_if_eq (pc := 40) (tgt := 52) E dX8_adds_40 (by decide) (fun h10 => ?_) (fun h10 => absurd h10 (by decide))
        refine nz_iload_n (pc := 52) (i := 3) E dX8_adds_52 rfl rfl ?_
        exact nz_iret (pc := 53) E hR rfl hf dX8_adds_53
      · have hf := nz_ite_f hf h9
        refine nz_iconst (pc := 33) (v := 1) E dX8_adds_33 (by decide) ?_
        refine nz_goto (pc := 34) (tgt := 38) E dX8_adds_34 (by decide) ?_
        refine nz_istore_n (pc := 38) (i := 3) E dX8_adds_38 rfl (by decide) rfl ?_
        refine nz_iload_n (pc := 39) (i := 3) E dX8_adds_39 rfl rfl ?_
        refine nz_if_eq (pc := 40) (tgt := 52) E dX8_adds_40 (by decide) (fun h11 => absurd h11 (by decide)) (fun h11 => ?_)
        refine nz_aload_n (pc := 43) (i := 0) E dX8_adds_43 rfl rfl ?_
        refine nz_getR (pc := 44) (c := 0) (kf := 6) E rfl rfl (nz_upT nz_uX8) (by decide) (List.mem_cons_of_mem _ nz_w682) rfl rfl dX8_adds_44 ?_
        refine nz_iload_n (pc := 47) (i := 1) E dX8_adds_47 rfl rfl ?_
        refine nz_iload_n (pc := 48) (i := 2) E dX8_adds_48 rfl rfl ?_
        obtain ⟨r12, x13, h14, hf⟩ := nz_bnd_t hf
        refine nz_callSV (pc := 49) (As := [.ref (q 4), .int _, .int _]) E (k_X8_goAdd 4 nz_p4 _ _ _ _ h14) (nz_cwS E nz_w908 nz_w909 nz_w67 nz_w910 ds_X8_goAdd ⟨Nat.le_of_ble_eq_true rfl, Nat.le_of_ble_eq_true rfl⟩ rfl rfl) rfl rfl (Nat.le_of_ble_eq_true rfl) dX8_adds_49 ?_
        refine nz_iload_n (pc := 52) (i := 3) E dX8_adds_52 rfl rfl ?_
        exact nz_iret (pc := 53) E hR rfl hf dX8_adds_53
def f_X8_cuts (a0 : Int32) (a1 : Int32) (x : nz_S) : Option (Int32 × nz_S) :=
  nz_chk (nz_in (0 : Int32) 61) <|
  if (x.1 4 ((0 : Int32)).toNatClampNeg) ≤ a0 then
    some ((0 : Int32), x)
  else
    let v4 : Int32 := ((13 : Int32) + a0)
    nz_chk (nz_in v4 61) <|
    if (x.1 4 (v4).toNatClampNeg) ≤ a1 then
      some ((0 : Int32), x)
    else
      nz_bnd (f_X8_goCut 4 a0 a1 x) fun r9 x10 =>
      some ((1 : Int32), x10)
theorem ds_X8_cuts : nz_dsc yX8_cuts 2 := by unfold nz_dsc; decide +kernel
set_option maxHeartbeats 4000000 in
set_option maxRecDepth 20000 in
theorem k_X8_cuts {l : Launch} {w : nz_O} {q : Nat → Nat} (a0 : Int32) (a1 : Int32) (x : nz_S) (o : Int32 × nz_S) (hf : f_X8_cuts a0 a1 x = some o) : nz_MI l yX8_cuts (nz_T yX8_cuts cX8_cuts 4 (some .boolean)) (nz_R 1 25) w q nz_tM [.ref (q 0), .int a0, .int a1] x o := by
  refine nz_enterI (by decide) rfl (Nat.le_of_ble_eq_true rfl) rfl rfl ?_
  intro κ E hw hlq hR
  subst hw; subst hlq
  unfold f_X8_cuts at hf
  refine nz_weak (lv' := [(0, .ref (q 0)), (1, .int a0), (2, .int a1)]) ⟨rfl, rfl, rfl, trivial⟩ ?_
  refine nz_iload_n (pc := 0) (i := 1) E dX8_cuts_0 rfl rfl ?_
  refine nz_aload_n (pc := 1) (i := 0) E dX8_cuts_1 rfl rfl ?_
  refine nz_getR (pc := 2) (c := 0) (kf := 6) E rfl rfl (nz_upT nz_uX8) (by decide) (List.mem_cons_of_mem _ nz_w682) rfl rfl dX8_cuts_2 ?_
  refine nz_iconst (pc := 5) (v := 0) E dX8_cuts_5 (by decide) ?_
  obtain ⟨h1, hf⟩ := nz_chk_t hf
  refine nz_iald (pc := 6) (c := 4) E rfl h1 dX8_cuts_6 ?_
  refine nz_icmp_ge (pc := 7) (tgt := 27) E dX8_cuts_7 (by decide) (fun h2 => ?_) (fun h2 => ?_)
  · have hf := nz_ite_t hf h2
    refine nz_iconst (pc := 27) (v := 0) E dX8_cuts_27 (by decide) ?_
    refine nz_istore_n (pc := 28) (i := 3) E dX8_cuts_28 rfl (by decide) rfl ?_
    refine nz_iload_n (pc := 29) (i := 3) E dX8_cuts_29 rfl rfl ?_
    refine nz_if_eq (pc := 30) (tgt := 43) E dX8_cuts_30 (by decide) (fun h3 => ?_) (fun h3 => absurd h3 (by decide))
    refine nz_iload_n (pc := 43) (i := 3) E dX8_cuts_43 rfl rfl ?_
    exact nz_iret (pc := 44) E hR rfl hf dX8_cuts_44
  · have hf := nz_ite_f hf h2
    refine nz_iload_n (pc := 10) (i := 2) E dX8_cuts_10 rfl rfl ?_
    refine nz_aload_n (pc := 11) (i := 0) E dX8_cuts_11 rfl rfl ?_
    refine nz_getR (pc := 12) (c := 0) (kf := 6) E rfl rfl (nz_upT nz_uX8) (by decide) (List.mem_cons_of_mem _ nz_w682) rfl rfl dX8_cuts_12 ?_
    refine nz_bipush (pc := 15) (v := 13) E dX8_cuts_15 (by decide) ?_
    refine nz_iload_n (pc := 17) (i := 1) E dX8_cuts_17 rfl rfl ?_
    refine nz_iadd (pc := 18) E dX8_cuts_18 ?_
    obtain ⟨h5, hf⟩ := nz_chk_t hf
    refine nz_iald (pc := 19) (c := 4) E rfl h5 dX8_cuts_19 ?_
    refine nz_icmp_ge (pc := 20) (tgt := 27) E dX8_cuts_20 (by decide) (fun h6 => ?_) (fun h6 => ?_)
    · have hf := nz_ite_t hf h6
      refine nz_iconst (pc := 27) (v := 0) E dX8_cuts_27 (by decide) ?_
      refine nz_istore_n (pc := 28) (i := 3) E dX8_cuts_28 rfl (by decide) rfl ?_
      refine nz_iload_n (pc := 29) (i := 3) E dX8_cuts_29 rfl rfl ?_
      refine nz_if_eq (pc := 30) (tgt := 43) E dX8_cuts_30 (by decide) (fun h7 => ?_) (fun h7 => absurd h7 (by decide))
      refine nz_iload_n (pc := 43) (i := 3) E dX8_cuts_43 rfl rfl ?_
      exact nz_iret (pc := 44) E hR rfl hf dX8_cuts_44
    · have hf := nz_ite_f hf h6
      refine nz_iconst (pc := 23) (v := 1) E dX8_cuts_23 (by decide) ?_
      refine nz_goto (pc := 24) (tgt := 28) E dX8_cuts_24 (by decide) ?_
      refine nz_istore_n (pc := 28) (i := 3) E dX8_cuts_28 rfl (by decide) rfl ?_
      refine nz_iload_n (pc := 29) (i := 3) E dX8_cuts_29 rfl rfl ?_
      refine nz_if_eq (pc := 30) (tgt := 43) E dX8_cuts_30 (by decide) (fun h8 => absurd h8 (by decide)) (fun h8 => ?_)
      refine nz_aload_n (pc := 33) (i := 0) E dX8_cuts_33 rfl rfl ?_
      refine nz_getR (pc := 34) (c := 0) (kf := 6) E rfl rfl (nz_upT nz_uX8) (by decide) (List.mem_cons_of_mem _ nz_w682) rfl rfl dX8_cuts_34 ?_
      refine nz_iload_n (pc := 37) (i := 1) E dX8_cuts_37 rfl rfl ?_
      refine nz_iload_n (pc := 38) (i := 2) E dX8_cuts_38 rfl rfl ?_
      obtain ⟨r9, x10, h11, hf⟩ := nz_bnd_t hf
      refine nz_callSI (pc := 39) (As := [.ref (q 4), .int _, .int _]) E (k_X8_goCut 4 nz_p4 _ _ _ _ h11) (nz_cwS E nz_w915 nz_w916 nz_w67 nz_w917 ds_X8_goCut ⟨Nat.le_of_ble_eq_true rfl, Nat.le_of_ble_eq_true rfl⟩ rfl rfl) rfl rfl (Nat.le_of_ble_eq_true rfl) dX8_cuts_39 ?_
      refine nz_pop (pc := 42) E dX8_cuts_42 rfl ?_
      refine nz_iload_n (pc := 43) (i := 3) E dX8_cuts_43 rfl rfl ?_
      exact nz_iret (pc := 44) E hR rfl hf dX8_cuts_44
def f_X8_splits (a0 : Int32) (a1 : Int32) (x : nz_S) : Option (Int32 × nz_S) :=
  nz_chk (nz_in (0 : Int32) 61) <|
  if (x.1 4 ((0 : Int32)).toNatClampNeg) ≤ a0 then
    some ((0 : Int32), x)
  else
    nz_chk (nz_in (0 : Int32) 61) <|
    if (x.1 4 ((0 : Int32)).toNatClampNeg) ≤ a1 then
      some ((0 : Int32), x)
    else
      nz_chk (nz_in (0 : Int32) 61) <|
      if (12 : Int32) ≤ (x.1 4 ((0 : Int32)).toNatClampNeg) then
        some ((0 : Int32), x)
      else
        nz_bnd (f_X8_goes 4 a0 a1 x) fun r10 x11 =>
        if r10 = (0 : Int32) then
          some ((0 : Int32), x11)
        else
          nz_bnd (f_X8_goSplit 4 a0 a1 x11) fun r16 x17 =>
          some ((1 : Int32), x17)
theorem ds_X8_splits : nz_dsc yX8_splits 2 := by unfold nz_dsc; decide +kernel
set_option maxHeartbeats 4000000 in
set_option maxRecDepth 20000 in
theorem k_X8_splits {l : Launch} {w : nz_O} {q : Nat → Nat} (a0 : Int32) (a1 : Int32) (x : nz_S) (o : Int32 × nz_S) (hf : f_X8_splits a0 a1 x = some o) : nz_MI l yX8_splits (nz_T yX8_splits cX8_splits 4 (some .boolean)) (nz_R 1 25) w q nz_tM [.ref (q 0), .int a0, .int a1] x o := by
  refine nz_enterI (by decide) rfl (Nat.le_of_ble_eq_true rfl) rfl rfl ?_
  intro κ E hw hlq hR
  subst hw; subst hlq
  unfold f_X8_splits at hf
  refine nz_weak (lv' := [(0, .ref (q 0)), (1, .int a0), (2, .int a1)]) ⟨rfl, rfl, rfl, trivial⟩ ?_
  refine nz_iload_n (pc := 0) (i := 1) E dX8_splits_0 rfl rfl ?_
  refine nz_aload_n (pc := 1) (i := 0) E dX8_splits_1 rfl rfl ?_
  refine nz_getR (pc := 2) (c := 0) (kf := 6) E rfl rfl (nz_upT nz_uX8) (by decide) (List.mem_cons_of_mem _ nz_w682) rfl rfl dX8_splits_2 ?_
  refine nz_iconst (pc := 5) (v := 0) E dX8_splits_5 (by decide) ?_
  obtain ⟨h1, hf⟩ := nz_chk_t hf
  refine nz_iald (pc := 6) (c := 4) E rfl h1 dX8_splits_6 ?_
  refine nz_icmp_ge (pc := 7) (tgt := 47) E dX8_splits_7 (by decide) (fun h2 => ?_) (fun h2 => ?_)
  · have hf := nz_ite_t hf h2
    refine nz_iconst (pc := 47) (v := 0) E dX8_splits_47 (by decide) ?_
    refine nz_istore_n (pc := 48) (i := 3) E dX8_splits_48 rfl (by decide) rfl ?_
    refine nz_iload_n (pc := 49) (i := 3) E dX8_splits_49 rfl rfl ?_
    refine nz_if_eq (pc := 50) (tgt := 63) E dX8_splits_50 (by decide) (fun h3 => ?_) (fun h3 => absurd h3 (by decide))
    refine nz_iload_n (pc := 63) (i := 3) E dX8_splits_63 rfl rfl ?_
    exact nz_iret (pc := 64) E hR rfl hf dX8_splits_64
  · have hf := nz_ite_f hf h2
    refine nz_iload_n (pc := 10) (i := 2) E dX8_splits_10 rfl rfl ?_
    refine nz_aload_n (pc := 11) (i := 0) E dX8_splits_11 rfl rfl ?_
    refine nz_getR (pc := 12) (c := 0) (kf := 6) E rfl rfl (nz_upT nz_uX8) (by decide) (List.mem_cons_of_mem _ nz_w682) rfl rfl dX8_splits_12 ?_
    refine nz_iconst (pc := 15) (v := 0) E dX8_splits_15 (by decide) ?_
    obtain ⟨h4, hf⟩ := nz_chk_t hf
    refine nz_iald (pc := 16) (c := 4) E rfl h4 dX8_splits_16 ?_
    refine nz_icmp_ge (pc := 17) (tgt := 47) E dX8_splits_17 (by decide) (fun h5 => ?_) (fun h5 => ?_)
    · have hf := nz_ite_t hf h5
      refine nz_iconst (pc := 47) (v := 0) E dX8_splits_47 (by decide) ?_
      refine nz_istore_n (pc := 48) (i := 3) E dX8_splits_48 rfl (by decide) rfl ?_
      refine nz_iload_n (pc := 49) (i := 3) E dX8_splits_49 rfl rfl ?_
      refine nz_if_eq (pc := 50) (tgt := 63) E dX8_splits_50 (by decide) (fun h6 => ?_) (fun h6 => absurd h6 (by decide))
      refine nz_iload_n (pc := 63) (i := 3) E dX8_splits_63 rfl rfl ?_
      exact nz_iret (pc := 64) E hR rfl hf dX8_splits_64
    · have hf := nz_ite_f hf h5
      refine nz_aload_n (pc := 20) (i := 0) E dX8_splits_20 rfl rfl ?_
      refine nz_getR (pc := 21) (c := 0) (kf := 6) E rfl rfl (nz_upT nz_uX8) (by decide) (List.mem_cons_of_mem _ nz_w682) rfl rfl dX8_splits_21 ?_
      refine nz_iconst (pc := 24) (v := 0) E dX8_splits_24 (by decide) ?_
      obtain ⟨h7, hf⟩ := nz_chk_t hf
      refine nz_iald (pc := 25) (c := 4) E rfl h7 dX8_splits_25 ?_
      refine nz_bipush (pc := 26) (v := 12) E dX8_splits_26 (by decide) ?_
      refine nz_icmp_ge (pc := 28) (tgt := 47) E dX8_splits_28 (by decide) (fun h8 => ?_) (fun h8 => ?_)
      · have hf := nz_ite_t hf h8
        refine nz_iconst (pc := 47) (v := 0) E dX8_splits_47 (by decide) ?_
        refine nz_istore_n (pc := 48) (i := 3) E dX8_splits_48 rfl (by decide) rfl ?_
        refine nz_iload_n (pc := 49) (i := 3) E dX8_splits_49 rfl rfl ?_
        refine nz_if_eq (pc := 50) (tgt := 63) E dX8_splits_50 (by decide) (fun h9 => ?_) (fun h9 => absurd h9 (by decide))
        refine nz_iload_n (pc := 63) (i := 3) E dX8_splits_63 rfl rfl ?_
        exact nz_iret (pc := 64) E hR rfl hf dX8_splits_64
      · have hf := nz_ite_f hf h8
        refine nz_aload_n (pc := 31) (i := 0) E dX8_splits_31 rfl rfl ?_
        refine nz_getR (pc := 32) (c := 0) (kf := 6) E rfl rfl (nz_upT nz_uX8) (by decide) (List.mem_cons_of_mem _ nz_w682) rfl rfl dX8_splits_32 ?_
        refine nz_iload_n (pc := 35) (i := 1) E dX8_splits_35 rfl rfl ?_
        refine nz_iload_n (pc := 36) (i := 2) E dX8_splits_36 rfl rfl ?_
        obtain ⟨r10, x11, h12, hf⟩ := nz_bnd_t hf
        refine nz_callSI (pc := 37) (As := [.ref (q 4), .int _, .int _]) E (k_X8_goes 4 nz_p4 _ _ _ _ h12) (nz_cwS E nz_w816 nz_w817 nz_w67 nz_w818 ds_X8_goes ⟨Nat.le_of_ble_eq_true rfl, Nat.le_of_ble_eq_true rfl⟩ rfl rfl) rfl rfl (Nat.le_of_ble_eq_true rfl) dX8_splits_37 ?_
        refine nz_if_eq (pc := 40) (tgt := 47) E dX8_splits_40 (by decide) (fun h13 => ?_) (fun h13 => ?_)
        · have hf := nz_ite_t hf h13
          refine nz_iconst (pc := 47) (v := 0) E dX8_splits_47 (by decide) ?_
          refine nz_istore_n (pc := 48) (i := 3) E dX8_splits_48 rfl (by decide) rfl ?_
          refine nz_iload_n (pc := 49) (i := 3) E dX8_splits_49 rfl rfl ?_
          refine nz_if_eq (pc := 50) (tgt := 63) E dX8_splits_50 (by decide) (fun h14 => ?_) (fun h14 => absurd h14 (by decide))
          refine nz_iload_n (pc := 63) (i := 3) E dX8_splits_63 rfl rfl ?_
          exact nz_iret (pc := 64) E hR rfl hf dX8_splits_64
        · have hf := nz_ite_f hf h13
          refine nz_iconst (pc := 43) (v := 1) E dX8_splits_43 (by decide) ?_
          refine nz_goto (pc := 44) (tgt := 48) E dX8_splits_44 (by decide) ?_
          refine nz_istore_n (pc := 48) (i := 3) E dX8_splits_48 rfl (by decide) rfl ?_
          refine nz_iload_n (pc := 49) (i := 3) E dX8_splits_49 rfl rfl ?_
          refine nz_if_eq (pc := 50) (tgt := 63) E dX8_splits_50 (by decide) (fun h15 => absurd h15 (by decide)) (fun h15 => ?_)
          refine nz_aload_n (pc := 53) (i := 0) E dX8_splits_53 rfl rfl ?_
          refine nz_getR (pc := 54) (c := 0) (kf := 6) E rfl rfl (nz_upT nz_uX8) (by decide) (List.mem_cons_of_mem _ nz_w682) rfl rfl dX8_splits_54 ?_
          refine nz_iload_n (pc := 57) (i := 1) E dX8_splits_57 rfl rfl ?_
          refine nz_iload_n (pc := 58) (i := 2) E dX8_splits_58 rfl rfl ?_
          obtain ⟨r16, x17, h18, hf⟩ := nz_bnd_t hf
          refine nz_callSI (pc := 59) (As := [.ref (q 4), .int _, .int _]) E (k_X8_goSplit 4 nz_p4 _ _ _ _ h18) (nz_cwS E nz_w922 nz_w923 nz_w67 nz_w924 ds_X8_goSplit ⟨Nat.le_of_ble_eq_true rfl, Nat.le_of_ble_eq_true rfl⟩ rfl rfl) rfl rfl (Nat.le_of_ble_eq_true rfl) dX8_splits_59 ?_
          refine nz_pop (pc := 62) E dX8_splits_62 rfl ?_
          refine nz_iload_n (pc := 63) (i := 3) E dX8_splits_63 rfl rfl ?_
          exact nz_iret (pc := 64) E hR rfl hf dX8_splits_64
