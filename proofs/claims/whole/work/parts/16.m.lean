def f_X7_torn_43 (c1 : Int32) (c2 : Int32) (c3 : Int32) (c4 : Int32) : Nat → Int32 → Int32 → nz_S → (Int32 → Int32 → nz_S → Option (Int32 × nz_S)) → Option (Int32 × nz_S)
  | 0, _, _, _, _ => none
  | fu + 1, w5, w6, x, K =>
  if ((1 : Int32) <<< (c4 &&& 31)) ≤ w6 then
    K w5 w6 x
  else
    nz_bnd (f_X7_surveyWithArcs  c1 w6 x) fun r10 x11 =>
    nz_bnd (f_X5_isTame   x11) fun r13 x14 =>
    if r13 = (0 : Int32) then
      let v17 : Int32 := w6 + 1
      f_X7_torn_43 c1 c2 c3 c4 fu w5 v17 x14 K
    else
      nz_bnd (f_J6_bitCount_0f7a4  w6 x14) fun r18 x19 =>
      nz_bnd (f_X7_power  ((10 : Int32) - c2) r18 x19) fun r21 x22 =>
      nz_bnd (f_X7_power  c2 (c4 - r18) x22) fun r24 x25 =>
      let v27 : Int32 := (w5 + (r21 * r24))
      let v28 : Int32 := w6 + 1
      f_X7_torn_43 c1 c2 c3 c4 fu v27 v28 x25 K
def f_X7_torn (a0 : Int32) (a1 : Int32) (a2 : Int32) (x : nz_S) : Option (Int32 × nz_S) :=
  nz_bnd (f_X0_hasBlock 3 a0 x) fun r1 x2 =>
  if r1 = (0 : Int32) then
    some ((-1 : Int32), x2)
  else
    if a1 < (0 : Int32) then
      some ((-2 : Int32), x2)
    else
      if a1 ≤ (10 : Int32) then
        nz_chk (nz_in a0 12) <|
        let v8 : Int32 := (x2.1 5 (a0).toNatClampNeg)
        f_X7_torn_43 a0 a1 a2 v8 nz_F (0 : Int32) (0 : Int32) x2 fun u30 u31 x29 =>
          nz_bnd (f_X7_power  (10 : Int32) v8 x29) fun r32 x33 =>
          nz_bnd (f_X7_inLeastTerms  u30 r32 a2 x33) fun r35 x36 =>
          some (r35, x36)
      else
        some ((-2 : Int32), x2)
theorem ds_X7_torn : nz_dsc yX7_torn 3 := by unfold nz_dsc; decide +kernel
set_option maxHeartbeats 4000000 in
set_option maxRecDepth 20000 in
theorem w_X7_torn_43 {κ : nz_C} {q : Nat → Nat} {o : Int32 × nz_S} (c1 : Int32) (c2 : Int32) (c3 : Int32) (c4 : Int32) (E : nz_Env κ q nz_tK 8 cX7_torn RX7 (nz_T yX7_torn cX7_torn 8 (some .int)) (nz_R 16 408)) (hR : nz_RI κ q nz_tK .int o) : ∀ (fu : Nat) (w5 : Int32) (w6 : Int32) (x : nz_S) (K : Int32 → Int32 → nz_S → Option (Int32 × nz_S)), f_X7_torn_43 c1 c2 c3 c4 fu w5 w6 x K = some o → (∀ (w5 : Int32) (w6 : Int32) (x : nz_S), K w5 w6 x = some o → nz_St κ q nz_tK 8 106 [(0, .ref (q 0)), (1, .int c1), (2, .int c2), (3, .int c3), (4, .int c4), (5, .int w5), (6, .int w6)] [] x) → nz_St κ q nz_tK 8 43 [(0, .ref (q 0)), (1, .int c1), (2, .int c2), (3, .int c3), (4, .int c4), (5, .int w5), (6, .int w6)] [] x := by
  intro fu
  induction fu with
  | zero => intro w5 w6 x K hf; rw [f_X7_torn_43] at hf; cases hf
  | succ fu ih =>
    intro w5 w6 x K hf hK
    rw [f_X7_torn_43] at hf
    refine nz_iload (pc := 43) (i := 6) E dX7_torn_43 rfl ?_
    refine nz_iconst (pc := 45) (v := 1) E dX7_torn_45 (by decide) ?_
    refine nz_iload (pc := 46) (i := 4) E dX7_torn_46 rfl ?_
    refine nz_ishl (pc := 48) E dX7_torn_48 ?_
    refine nz_icmp_ge (pc := 49) (tgt := 106) E dX7_torn_49 (by decide) (fun h9 => ?_) (fun h9 => ?_)
    · have hf := nz_ite_t hf h9
      refine nz_weak (lv' := [(0, .ref (q 0)), (1, .int _), (2, .int _), (3, .int _), (4, .int _), (5, .int _), (6, .int _)]) ⟨rfl, rfl, rfl, rfl, rfl, rfl, rfl, trivial⟩ ?_
      exact hK _ _ _ hf
    · have hf := nz_ite_f hf h9
      refine nz_aload_n (pc := 52) (i := 0) E dX7_torn_52 rfl rfl ?_
      refine nz_iload_n (pc := 53) (i := 1) E dX7_torn_53 rfl rfl ?_
      refine nz_iload (pc := 54) (i := 6) E dX7_torn_54 rfl ?_
      obtain ⟨r10, x11, h12, hf⟩ := nz_bnd_t hf
      refine nz_callVV (pc := 56) (c0 := 0) (As := [.int _, .int _]) E rfl rfl (k_X7_surveyWithArcs   _ _ _ _ h12) (nz_cwV E nz_w586 nz_w588 nz_w18 nz_w58 nz_w589 ds_X7_surveyWithArcs ⟨Nat.le_of_ble_eq_true rfl, Nat.le_of_ble_eq_true rfl⟩ rfl rfl) rfl rfl (Nat.le_of_ble_eq_true rfl) dX7_torn_56 ?_
      refine nz_aload_n (pc := 59) (i := 0) E dX7_torn_59 rfl rfl ?_
      refine nz_getR (pc := 60) (c := 0) (kf := 3) E rfl rfl (nz_upT nz_uX7) (by decide) (List.mem_cons_of_mem _ nz_w251) rfl rfl dX7_torn_60 ?_
      obtain ⟨r13, x14, h15, hf⟩ := nz_bnd_t hf
      refine nz_callVI (pc := 63) (c0 := 11) (As := []) E rfl rfl (k_X5_isTame   _ _ h15) (nz_cwV E nz_w402 nz_w403 nz_w404 nz_w61 nz_w405 ds_X5_isTame ⟨Nat.le_of_ble_eq_true rfl, Nat.le_of_ble_eq_true rfl⟩ rfl rfl) rfl rfl (Nat.le_of_ble_eq_true rfl) dX7_torn_63 ?_
      refine nz_if_eq (pc := 66) (tgt := 100) E dX7_torn_66 (by decide) (fun h16 => ?_) (fun h16 => ?_)
      · have hf := nz_ite_t hf h16
        refine nz_iinc (pc := 100) (i := 6) (w := 1) E dX7_torn_100 rfl (by decide) (by decide) rfl ?_
        refine nz_goto (pc := 103) (tgt := 43) E dX7_torn_103 (by decide) ?_
        refine nz_weak (lv' := [(0, .ref (q 0)), (1, .int _), (2, .int _), (3, .int _), (4, .int _), (5, .int _), (6, .int _)]) ⟨rfl, rfl, rfl, rfl, rfl, rfl, rfl, trivial⟩ ?_
        exact ih _ _ _ _ hf hK
      · have hf := nz_ite_f hf h16
        refine nz_iload (pc := 69) (i := 6) E dX7_torn_69 rfl ?_
        obtain ⟨r18, x19, h20, hf⟩ := nz_bnd_t hf
        refine nz_callSI (pc := 71) (As := [.int _]) E (k_J6_bitCount_0f7a4   _ _ _ h20) (nz_cwS E nz_w573 nz_w574 nz_w70 nz_w575 ds_J6_bitCount_0f7a4 ⟨Nat.le_of_ble_eq_true rfl, Nat.le_of_ble_eq_true rfl⟩ rfl rfl) rfl rfl (Nat.le_of_ble_eq_true rfl) dX7_torn_71 ?_
        refine nz_istore (pc := 74) (i := 7) E dX7_torn_74 (by decide) rfl ?_
        refine nz_iload (pc := 76) (i := 5) E dX7_torn_76 rfl ?_
        refine nz_bipush (pc := 78) (v := 10) E dX7_torn_78 (by decide) ?_
        refine nz_iload_n (pc := 80) (i := 2) E dX7_torn_80 rfl rfl ?_
        refine nz_isub (pc := 81) E dX7_torn_81 ?_
        refine nz_iload (pc := 82) (i := 7) E dX7_torn_82 rfl ?_
        obtain ⟨r21, x22, h23, hf⟩ := nz_bnd_t hf
        refine nz_callSI (pc := 84) (As := [.int _, .int _]) E (k_X7_power   _ _ _ _ h23) (nz_cwS E nz_w635 nz_w636 nz_w58 nz_w637 ds_X7_power ⟨Nat.le_of_ble_eq_true rfl, Nat.le_of_ble_eq_true rfl⟩ rfl rfl) rfl rfl (Nat.le_of_ble_eq_true rfl) dX7_torn_84 ?_
        refine nz_iload_n (pc := 87) (i := 2) E dX7_torn_87 rfl rfl ?_
        refine nz_iload (pc := 88) (i := 4) E dX7_torn_88 rfl ?_
        refine nz_iload (pc := 90) (i := 7) E dX7_torn_90 rfl ?_
        refine nz_isub (pc := 92) E dX7_torn_92 ?_
        obtain ⟨r24, x25, h26, hf⟩ := nz_bnd_t hf
        refine nz_callSI (pc := 93) (As := [.int _, .int _]) E (k_X7_power   _ _ _ _ h26) (nz_cwS E nz_w635 nz_w636 nz_w58 nz_w637 ds_X7_power ⟨Nat.le_of_ble_eq_true rfl, Nat.le_of_ble_eq_true rfl⟩ rfl rfl) rfl rfl (Nat.le_of_ble_eq_true rfl) dX7_torn_93 ?_
        refine nz_imul (pc := 96) E dX7_torn_96 ?_
        refine nz_iadd (pc := 97) E dX7_torn_97 ?_
        refine nz_istore (pc := 98) (i := 5) E dX7_torn_98 (by decide) rfl ?_
        refine nz_iinc (pc := 100) (i := 6) (w := 1) E dX7_torn_100 rfl (by decide) (by decide) rfl ?_
        refine nz_goto (pc := 103) (tgt := 43) E dX7_torn_103 (by decide) ?_
        refine nz_weak (lv' := [(0, .ref (q 0)), (1, .int _), (2, .int _), (3, .int _), (4, .int _), (5, .int _), (6, .int _)]) ⟨rfl, rfl, rfl, rfl, rfl, rfl, rfl, trivial⟩ ?_
        exact ih _ _ _ _ hf hK
set_option maxHeartbeats 4000000 in
set_option maxRecDepth 20000 in
theorem k_X7_torn {l : Launch} {w : nz_O} {q : Nat → Nat} (a0 : Int32) (a1 : Int32) (a2 : Int32) (x : nz_S) (o : Int32 × nz_S) (hf : f_X7_torn a0 a1 a2 x = some o) : nz_MI l yX7_torn (nz_T yX7_torn cX7_torn 8 (some .int)) (nz_R 16 408) w q nz_tK [.ref (q 0), .int a0, .int a1, .int a2] x o := by
  refine nz_enterI (by decide) rfl (Nat.le_of_ble_eq_true rfl) rfl rfl ?_
  intro κ E hw hlq hR
  subst hw; subst hlq
  unfold f_X7_torn at hf
  refine nz_weak (lv' := [(0, .ref (q 0)), (1, .int a0), (2, .int a1), (3, .int a2)]) ⟨rfl, rfl, rfl, rfl, trivial⟩ ?_
  refine nz_aload_n (pc := 0) (i := 0) E dX7_torn_0 rfl rfl ?_
  refine nz_getR (pc := 1) (c := 0) (kf := 1) E rfl rfl (nz_upT nz_uX7) (by decide) (List.mem_cons_of_mem _ nz_w249) rfl rfl dX7_torn_1 ?_
  refine nz_iload_n (pc := 4) (i := 1) E dX7_torn_4 rfl rfl ?_
  obtain ⟨r1, x2, h3, hf⟩ := nz_bnd_t hf
  refine nz_callVI (pc := 5) (c0 := 3) (As := [.int _]) E rfl rfl (k_X0_hasBlock 3 nz_g3 _ _ _ h3) (nz_cwV E nz_w418 nz_w419 nz_w420 nz_w60 nz_w421 ds_X0_hasBlock ⟨Nat.le_of_ble_eq_true rfl, Nat.le_of_ble_eq_true rfl⟩ rfl rfl) rfl rfl (Nat.le_of_ble_eq_true rfl) dX7_torn_5 ?_
  refine nz_if_ne (pc := 8) (tgt := 13) E dX7_torn_8 (by decide) (fun h4 => ?_) (fun h4 => ?_)
  · have hf := nz_ite_f hf h4
    refine nz_iload_n (pc := 13) (i := 2) E dX7_torn_13 rfl rfl ?_
    refine nz_if_lt (pc := 14) (tgt := 23) E dX7_torn_14 (by decide) (fun h5 => ?_) (fun h5 => ?_)
    · have hf := nz_ite_t hf h5
      refine nz_bipush (pc := 23) (v := -2) E dX7_torn_23 (by decide) ?_
      exact nz_iret (pc := 25) E hR rfl hf dX7_torn_25
    · have hf := nz_ite_f hf h5
      refine nz_iload_n (pc := 17) (i := 2) E dX7_torn_17 rfl rfl ?_
      refine nz_bipush (pc := 18) (v := 10) E dX7_torn_18 (by decide) ?_
      refine nz_icmp_le (pc := 20) (tgt := 26) E dX7_torn_20 (by decide) (fun h6 => ?_) (fun h6 => ?_)
      · have hf := nz_ite_t hf h6
        refine nz_aload_n (pc := 26) (i := 0) E dX7_torn_26 rfl rfl ?_
        refine nz_getR (pc := 27) (c := 0) (kf := 1) E rfl rfl (nz_upT nz_uX7) (by decide) (List.mem_cons_of_mem _ nz_w249) rfl rfl dX7_torn_27 ?_
        refine nz_getNR (pc := 30) (c := 3) (kf := 1) E rfl rfl (nz_upT nz_uX0) (by decide) nz_n106 rfl rfl dX7_torn_30 ?_
        refine nz_iload_n (pc := 33) (i := 1) E dX7_torn_33 rfl rfl ?_
        obtain ⟨h7, hf⟩ := nz_chk_t hf
        refine nz_iald (pc := 34) (c := 5) E rfl h7 dX7_torn_34 ?_
        refine nz_istore (pc := 35) (i := 4) E dX7_torn_35 (by decide) rfl ?_
        refine nz_iconst (pc := 37) (v := 0) E dX7_torn_37 (by decide) ?_
        refine nz_istore (pc := 38) (i := 5) E dX7_torn_38 (by decide) rfl ?_
        refine nz_iconst (pc := 40) (v := 0) E dX7_torn_40 (by decide) ?_
        refine nz_istore (pc := 41) (i := 6) E dX7_torn_41 (by decide) rfl ?_
        refine nz_weak (lv' := [(0, .ref (q 0)), (1, .int _), (2, .int _), (3, .int _), (4, .int _), (5, .int _), (6, .int _)]) ⟨rfl, rfl, rfl, rfl, rfl, rfl, rfl, trivial⟩ ?_
        refine w_X7_torn_43 _ _ _ _ E hR _ _ _ _ _ hf (fun u30 u31 x29 hf => ?_)
        refine nz_iload (pc := 106) (i := 5) E dX7_torn_106 rfl ?_
        refine nz_bipush (pc := 108) (v := 10) E dX7_torn_108 (by decide) ?_
        refine nz_iload (pc := 110) (i := 4) E dX7_torn_110 rfl ?_
        obtain ⟨r32, x33, h34, hf⟩ := nz_bnd_t hf
        refine nz_callSI (pc := 112) (As := [.int _, .int _]) E (k_X7_power   _ _ _ _ h34) (nz_cwS E nz_w635 nz_w636 nz_w58 nz_w637 ds_X7_power ⟨Nat.le_of_ble_eq_true rfl, Nat.le_of_ble_eq_true rfl⟩ rfl rfl) rfl rfl (Nat.le_of_ble_eq_true rfl) dX7_torn_112 ?_
        refine nz_iload_n (pc := 115) (i := 3) E dX7_torn_115 rfl rfl ?_
        obtain ⟨r35, x36, h37, hf⟩ := nz_bnd_t hf
        refine nz_callSI (pc := 116) (As := [.int _, .int _, .int _]) E (k_X7_inLeastTerms   _ _ _ _ _ h37) (nz_cwS E nz_w591 nz_w592 nz_w58 nz_w593 ds_X7_inLeastTerms ⟨Nat.le_of_ble_eq_true rfl, Nat.le_of_ble_eq_true rfl⟩ rfl rfl) rfl rfl (Nat.le_of_ble_eq_true rfl) dX7_torn_116 ?_
        exact nz_iret (pc := 119) E hR rfl hf dX7_torn_119
      · have hf := nz_ite_f hf h6
        refine nz_bipush (pc := 23) (v := -2) E dX7_torn_23 (by decide) ?_
        exact nz_iret (pc := 25) E hR rfl hf dX7_torn_25
  · have hf := nz_ite_t hf h4
    refine nz_iconst (pc := 11) (v := -1) E dX7_torn_11 (by decide) ?_
    exact nz_iret (pc := 12) E hR rfl hf dX7_torn_12
def f_X7_seed (a0 : Int64) (x : nz_S) : Option (Int64 × nz_S) :=
  let v1 : Int64 := x.2
  let x2 : nz_S := nz_lng x a0
  some (v1, x2)
theorem ds_X7_seed : nz_dsc yX7_seed 1 := by unfold nz_dsc; decide +kernel
set_option maxHeartbeats 4000000 in
set_option maxRecDepth 20000 in
theorem k_X7_seed {l : Launch} {w : nz_O} {q : Nat → Nat} (a0 : Int64) (x : nz_S) (o : Int64 × nz_S) (hf : f_X7_seed a0 x = some o) : nz_ML l yX7_seed (nz_T yX7_seed cX7_seed 5 (some .long)) (nz_R 0 0) w q nz_tK [.ref (q 0), .long a0] x o := by
  refine nz_enterL (by decide) rfl (Nat.le_of_ble_eq_true rfl) rfl rfl ?_
  intro κ E hw hlq hR
  subst hw; subst hlq
  unfold f_X7_seed at hf
  refine nz_weak (lv' := [(0, .ref (q 0)), (1, .long a0)]) ⟨rfl, rfl, trivial⟩ ?_
  refine nz_aload_n (pc := 0) (i := 0) E dX7_seed_0 rfl rfl ?_
  refine nz_getL (pc := 1) (c := 0) (kf := 7) E rfl rfl (nz_upT nz_uX7) (by decide) (List.mem_cons_of_mem _ nz_w255) rfl rfl dX7_seed_1 ?_
  refine nz_lstore_n (pc := 4) (i := 3) E dX7_seed_4 rfl (by decide) rfl rfl ?_
  refine nz_aload_n (pc := 5) (i := 0) E dX7_seed_5 rfl rfl ?_
  refine nz_lload_n (pc := 6) (i := 1) E dX7_seed_6 rfl rfl ?_
  refine nz_putL (pc := 7) (c := 0) (kf := 7) E rfl rfl (nz_upT nz_uX7) (by decide) (List.mem_cons_of_mem _ nz_w255) rfl tyX7 tyX7_ok nmX7 rfl (tyX7_ok 7 (by decide)) rfl (nz_oneX7) (by decide +kernel) dX7_seed_7 ?_
  refine nz_lload_n (pc := 10) (i := 3) E dX7_seed_10 rfl rfl ?_
  exact nz_lret (pc := 11) E hR hf dX7_seed_11
def f_X7_changeByDraw (a0 : Int32) (x : nz_S) : Option (Unit × nz_S) :=
  let v1 : Int32 := (a0 - a0 / (8 : Int32) * (8 : Int32))
  let v2 : Int32 := (a0 / (8 : Int32))
  let v3 : Int32 := (v2 - v2 / (8 : Int32) * (8 : Int32))
  let v4 : Int32 := (a0 / (64 : Int32))
  if (v4 - v4 / (4 : Int32) * (4 : Int32)) = (3 : Int32) then
    nz_bnd (f_X0_dropArc 7 v1 (0 : Int32) x) fun r9 x10 =>
    some ((), x10)
  else
    nz_bnd (f_X0_appendArc 7 v1 v3 x) fun r6 x7 =>
    some ((), x7)
theorem ds_X7_changeByDraw : nz_dsc yX7_changeByDraw 1 := by unfold nz_dsc; decide +kernel
set_option maxHeartbeats 4000000 in
set_option maxRecDepth 20000 in
theorem k_X7_changeByDraw {l : Launch} {w : nz_O} {q : Nat → Nat} (a0 : Int32) (x : nz_S) (o : Unit × nz_S) (hf : f_X7_changeByDraw a0 x = some o) : nz_MV l yX7_changeByDraw (nz_T yX7_changeByDraw cX7_changeByDraw 4 (none)) (nz_R 3 69) w q nz_tK [.ref (q 0), .int a0] x o := by
  refine nz_enterV (by decide) rfl (Nat.le_of_ble_eq_true rfl) rfl rfl ?_
  intro κ E hw hlq hR
  subst hw; subst hlq
  unfold f_X7_changeByDraw at hf
  refine nz_weak (lv' := [(0, .ref (q 0)), (1, .int a0)]) ⟨rfl, rfl, trivial⟩ ?_
  refine nz_iload_n (pc := 0) (i := 1) E dX7_changeByDraw_0 rfl rfl ?_
  refine nz_bipush (pc := 1) (v := 8) E dX7_changeByDraw_1 (by decide) ?_
  refine nz_irem (pc := 3) E dX7_changeByDraw_3 (by decide) ?_
  refine nz_istore_n (pc := 4) (i := 2) E dX7_changeByDraw_4 rfl (by decide) rfl ?_
  refine nz_iload_n (pc := 5) (i := 1) E dX7_changeByDraw_5 rfl rfl ?_
  refine nz_bipush (pc := 6) (v := 8) E dX7_changeByDraw_6 (by decide) ?_
  refine nz_idiv (pc := 8) E dX7_changeByDraw_8 (by decide) ?_
  refine nz_bipush (pc := 9) (v := 8) E dX7_changeByDraw_9 (by decide) ?_
  refine nz_irem (pc := 11) E dX7_changeByDraw_11 (by decide) ?_
  refine nz_istore_n (pc := 12) (i := 3) E dX7_changeByDraw_12 rfl (by decide) rfl ?_
  refine nz_iload_n (pc := 13) (i := 1) E dX7_changeByDraw_13 rfl rfl ?_
  refine nz_bipush (pc := 14) (v := 64) E dX7_changeByDraw_14 (by decide) ?_
  refine nz_idiv (pc := 16) E dX7_changeByDraw_16 (by decide) ?_
  refine nz_iconst (pc := 17) (v := 4) E dX7_changeByDraw_17 (by decide) ?_
  refine nz_irem (pc := 18) E dX7_changeByDraw_18 (by decide) ?_
  refine nz_iconst (pc := 19) (v := 3) E dX7_changeByDraw_19 (by decide) ?_
  refine nz_icmp_ne (pc := 20) (tgt := 36) E dX7_changeByDraw_20 (by decide) (fun h5 => ?_) (fun h5 => ?_)
  · have hf := nz_ite_f hf h5
    refine nz_aload_n (pc := 36) (i := 0) E dX7_changeByDraw_36 rfl rfl ?_
    refine nz_getR (pc := 37) (c := 0) (kf := 2) E rfl rfl (nz_upT nz_uX7) (by decide) (List.mem_cons_of_mem _ nz_w250) rfl rfl dX7_changeByDraw_37 ?_
    refine nz_iload_n (pc := 40) (i := 2) E dX7_changeByDraw_40 rfl rfl ?_
    refine nz_iload_n (pc := 41) (i := 3) E dX7_changeByDraw_41 rfl rfl ?_
    obtain ⟨r6, x7, h8, hf⟩ := nz_bnd_t hf
    refine nz_callVI (pc := 42) (c0 := 7) (As := [.int _, .int _]) E rfl rfl (k_X0_appendArc 7 nz_g7 _ _ _ _ h8) (nz_cwV E nz_w447 nz_w448 nz_w449 nz_w60 nz_w450 ds_X0_appendArc ⟨Nat.le_of_ble_eq_true rfl, Nat.le_of_ble_eq_true rfl⟩ rfl rfl) rfl rfl (Nat.le_of_ble_eq_true rfl) dX7_changeByDraw_42 ?_
    refine nz_pop (pc := 45) E dX7_changeByDraw_45 rfl ?_
    exact nz_vret (pc := 46) E hR hf dX7_changeByDraw_46
  · have hf := nz_ite_t hf h5
    refine nz_aload_n (pc := 23) (i := 0) E dX7_changeByDraw_23 rfl rfl ?_
    refine nz_getR (pc := 24) (c := 0) (kf := 2) E rfl rfl (nz_upT nz_uX7) (by decide) (List.mem_cons_of_mem _ nz_w250) rfl rfl dX7_changeByDraw_24 ?_
    refine nz_iload_n (pc := 27) (i := 2) E dX7_changeByDraw_27 rfl rfl ?_
    refine nz_iconst (pc := 28) (v := 0) E dX7_changeByDraw_28 (by decide) ?_
    obtain ⟨r9, x10, h11, hf⟩ := nz_bnd_t hf
    refine nz_callVI (pc := 29) (c0 := 7) (As := [.int _, .int _]) E rfl rfl (k_X0_dropArc 7 nz_g7 _ _ _ _ h11) (nz_cwV E nz_w468 nz_w469 nz_w470 nz_w60 nz_w471 ds_X0_dropArc ⟨Nat.le_of_ble_eq_true rfl, Nat.le_of_ble_eq_true rfl⟩ rfl rfl) rfl rfl (Nat.le_of_ble_eq_true rfl) dX7_changeByDraw_29 ?_
    refine nz_pop (pc := 32) E dX7_changeByDraw_32 rfl ?_
    refine nz_goto (pc := 33) (tgt := 46) E dX7_changeByDraw_33 (by decide) ?_
    exact nz_vret (pc := 46) E hR hf dX7_changeByDraw_46
def f_X7_drawn_29 (c1 : Int32) : Nat → Int32 → Int32 → nz_S → (Int32 → Int32 → nz_S → Option (Int32 × nz_S)) → Option (Int32 × nz_S)
  | 0, _, _, _, _ => none
  | fu + 1, w2, w3, x, K =>
  if c1 ≤ w3 then
    K w2 w3 x
  else
    let x7 : nz_S := nz_lng x ((x.2 * (6364136223846793005 : Int64)) + (1442695040888963407 : Int64))
    nz_bnd (f_X7_changeByDraw  (((x7.2).toUInt64 >>> (((33 : Int32)).toInt64.toUInt64 &&& Int64.toUInt64 63)).toInt64).toInt32 x7) fun r8 x9 =>
    nz_bnd (f_X5_read 7  x9) fun r11 x12 =>
    nz_bnd (f_X5_countLoops   x12) fun r14 x15 =>
    let v17 : Int32 := (w2 + r14)
    let v18 : Int32 := w3 + 1
    f_X7_drawn_29 c1 fu v17 v18 x15 K
def f_X7_drawn (a0 : Int32) (x : nz_S) : Option (Int32 × nz_S) :=
  if a0 < (1 : Int32) then
    some ((-2 : Int32), x)
  else
    if a0 ≤ (20 : Int32) then
      nz_bnd (f_X0_copyFrom 7 3  x) fun r3 x4 =>
      f_X7_drawn_29 a0 nz_F (0 : Int32) (0 : Int32) x4 fun u20 u21 x19 =>
        some (u20, x19)
    else
      some ((-2 : Int32), x)
theorem ds_X7_drawn : nz_dsc yX7_drawn 1 := by unfold nz_dsc; decide +kernel
set_option maxHeartbeats 4000000 in
set_option maxRecDepth 20000 in
theorem w_X7_drawn_29 {κ : nz_C} {q : Nat → Nat} {o : Int32 × nz_S} (c1 : Int32) (E : nz_Env κ q nz_tK 4 cX7_drawn RX7 (nz_T yX7_drawn cX7_drawn 4 (some .int)) (nz_R 15 386)) (hR : nz_RI κ q nz_tK .int o) : ∀ (fu : Nat) (w2 : Int32) (w3 : Int32) (x : nz_S) (K : Int32 → Int32 → nz_S → Option (Int32 × nz_S)), f_X7_drawn_29 c1 fu w2 w3 x K = some o → (∀ (w2 : Int32) (w3 : Int32) (x : nz_S), K w2 w3 x = some o → nz_St κ q nz_tK 4 89 [(0, .ref (q 0)), (1, .int c1), (2, .int w2), (3, .int w3)] [] x) → nz_St κ q nz_tK 4 29 [(0, .ref (q 0)), (1, .int c1), (2, .int w2), (3, .int w3)] [] x := by
  intro fu
  induction fu with
  | zero => intro w2 w3 x K hf; rw [f_X7_drawn_29] at hf; cases hf
  | succ fu ih =>
    intro w2 w3 x K hf hK
    rw [f_X7_drawn_29] at hf
    refine nz_iload_n (pc := 29) (i := 3) E dX7_drawn_29 rfl rfl ?_
    refine nz_iload_n (pc := 30) (i := 1) E dX7_drawn_30 rfl rfl ?_
    refine nz_icmp_ge (pc := 31) (tgt := 89) E dX7_drawn_31 (by decide) (fun h6 => ?_) (fun h6 => ?_)
    · have hf := nz_ite_t hf h6
      refine nz_weak (lv' := [(0, .ref (q 0)), (1, .int _), (2, .int _), (3, .int _)]) ⟨rfl, rfl, rfl, rfl, trivial⟩ ?_
      exact hK _ _ _ hf
    · have hf := nz_ite_f hf h6
      refine nz_aload_n (pc := 34) (i := 0) E dX7_drawn_34 rfl rfl ?_
      refine nz_aload_n (pc := 35) (i := 0) E dX7_drawn_35 rfl rfl ?_
      refine nz_getL (pc := 36) (c := 0) (kf := 7) E rfl rfl (nz_upT nz_uX7) (by decide) (List.mem_cons_of_mem _ nz_w255) rfl rfl dX7_drawn_36 ?_
      refine nz_ldc2 (pc := 39) E (List.mem_cons_of_mem _ nz_w646) dX7_drawn_39 ?_
      refine nz_lmul (pc := 42) E dX7_drawn_42 ?_
      refine nz_ldc2 (pc := 43) E (List.mem_cons_of_mem _ nz_w647) dX7_drawn_43 ?_
      refine nz_ladd (pc := 46) E dX7_drawn_46 ?_
      refine nz_putL (pc := 47) (c := 0) (kf := 7) E rfl rfl (nz_upT nz_uX7) (by decide) (List.mem_cons_of_mem _ nz_w255) rfl tyX7 tyX7_ok nmX7 rfl (tyX7_ok 7 (by decide)) rfl (nz_oneX7) (by decide +kernel) dX7_drawn_47 ?_
      refine nz_aload_n (pc := 50) (i := 0) E dX7_drawn_50 rfl rfl ?_
      refine nz_aload_n (pc := 51) (i := 0) E dX7_drawn_51 rfl rfl ?_
      refine nz_getL (pc := 52) (c := 0) (kf := 7) E rfl rfl (nz_upT nz_uX7) (by decide) (List.mem_cons_of_mem _ nz_w255) rfl rfl dX7_drawn_52 ?_
      refine nz_bipush (pc := 55) (v := 33) E dX7_drawn_55 (by decide) ?_
      refine nz_lushr (pc := 57) E dX7_drawn_57 ?_
      refine nz_l2i (pc := 58) E dX7_drawn_58 ?_
      obtain ⟨r8, x9, h10, hf⟩ := nz_bnd_t hf
      refine nz_callVV (pc := 59) (c0 := 0) (As := [.int _]) E rfl rfl (k_X7_changeByDraw   _ _ _ h10) (nz_cwV E nz_w648 nz_w650 nz_w20 nz_w58 nz_w651 ds_X7_changeByDraw ⟨Nat.le_of_ble_eq_true rfl, Nat.le_of_ble_eq_true rfl⟩ rfl rfl) rfl rfl (Nat.le_of_ble_eq_true rfl) dX7_drawn_59 ?_
      refine nz_aload_n (pc := 62) (i := 0) E dX7_drawn_62 rfl rfl ?_
      refine nz_getR (pc := 63) (c := 0) (kf := 3) E rfl rfl (nz_upT nz_uX7) (by decide) (List.mem_cons_of_mem _ nz_w251) rfl rfl dX7_drawn_63 ?_
      refine nz_aload_n (pc := 66) (i := 0) E dX7_drawn_66 rfl rfl ?_
      refine nz_getR (pc := 67) (c := 0) (kf := 2) E rfl rfl (nz_upT nz_uX7) (by decide) (List.mem_cons_of_mem _ nz_w250) rfl rfl dX7_drawn_67 ?_
      obtain ⟨r11, x12, h13, hf⟩ := nz_bnd_t hf
      refine nz_callVV (pc := 70) (c0 := 11) (As := [.ref (q 7)]) E rfl rfl (k_X5_read 7 nz_g7 _ _ h13) (nz_cwV E nz_w343 nz_w344 nz_w345 nz_w61 nz_w346 ds_X5_read ⟨Nat.le_of_ble_eq_true rfl, Nat.le_of_ble_eq_true rfl⟩ rfl rfl) rfl rfl (Nat.le_of_ble_eq_true rfl) dX7_drawn_70 ?_
      refine nz_iload_n (pc := 73) (i := 2) E dX7_drawn_73 rfl rfl ?_
      refine nz_aload_n (pc := 74) (i := 0) E dX7_drawn_74 rfl rfl ?_
      refine nz_getR (pc := 75) (c := 0) (kf := 3) E rfl rfl (nz_upT nz_uX7) (by decide) (List.mem_cons_of_mem _ nz_w251) rfl rfl dX7_drawn_75 ?_
      obtain ⟨r14, x15, h16, hf⟩ := nz_bnd_t hf
      refine nz_callVI (pc := 78) (c0 := 11) (As := []) E rfl rfl (k_X5_countLoops   _ _ h16) (nz_cwV E nz_w385 nz_w386 nz_w387 nz_w61 nz_w388 ds_X5_countLoops ⟨Nat.le_of_ble_eq_true rfl, Nat.le_of_ble_eq_true rfl⟩ rfl rfl) rfl rfl (Nat.le_of_ble_eq_true rfl) dX7_drawn_78 ?_
      refine nz_iadd (pc := 81) E dX7_drawn_81 ?_
      refine nz_istore_n (pc := 82) (i := 2) E dX7_drawn_82 rfl (by decide) rfl ?_
      refine nz_iinc (pc := 83) (i := 3) (w := 1) E dX7_drawn_83 rfl (by decide) (by decide) rfl ?_
      refine nz_goto (pc := 86) (tgt := 29) E dX7_drawn_86 (by decide) ?_
      refine nz_weak (lv' := [(0, .ref (q 0)), (1, .int _), (2, .int _), (3, .int _)]) ⟨rfl, rfl, rfl, rfl, trivial⟩ ?_
      exact ih _ _ _ _ hf hK
set_option maxHeartbeats 4000000 in
set_option maxRecDepth 20000 in
theorem k_X7_drawn {l : Launch} {w : nz_O} {q : Nat → Nat} (a0 : Int32) (x : nz_S) (o : Int32 × nz_S) (hf : f_X7_drawn a0 x = some o) : nz_MI l yX7_drawn (nz_T yX7_drawn cX7_drawn 4 (some .int)) (nz_R 15 386) w q nz_tK [.ref (q 0), .int a0] x o := by
  refine nz_enterI (by decide) rfl (Nat.le_of_ble_eq_true rfl) rfl rfl ?_
  intro κ E hw hlq hR
  subst hw; subst hlq
  unfold f_X7_drawn at hf
  refine nz_weak (lv' := [(0, .ref (q 0)), (1, .int a0)]) ⟨rfl, rfl, trivial⟩ ?_
  refine nz_iload_n (pc := 0) (i := 1) E dX7_drawn_0 rfl rfl ?_
  refine nz_iconst (pc := 1) (v := 1) E dX7_drawn_1 (by decide) ?_
  refine nz_icmp_lt (pc := 2) (tgt := 11) E dX7_drawn_2 (by decide) (fun h1 => ?_) (fun h1 => ?_)
  · have hf := nz_ite_t hf h1
    refine nz_bipush (pc := 11) (v := -2) E dX7_drawn_11 (by decide) ?_
    exact nz_iret (pc := 13) E hR rfl hf dX7_drawn_13
  · have hf := nz_ite_f hf h1
    refine nz_iload_n (pc := 5) (i := 1) E dX7_drawn_5 rfl rfl ?_
    refine nz_bipush (pc := 6) (v := 20) E dX7_drawn_6 (by decide) ?_
    refine nz_icmp_le (pc := 8) (tgt := 14) E dX7_drawn_8 (by decide) (fun h2 => ?_) (fun h2 => ?_)
    · have hf := nz_ite_t hf h2
      refine nz_aload_n (pc := 14) (i := 0) E dX7_drawn_14 rfl rfl ?_
      refine nz_getR (pc := 15) (c := 0) (kf := 2) E rfl rfl (nz_upT nz_uX7) (by decide) (List.mem_cons_of_mem _ nz_w250) rfl rfl dX7_drawn_15 ?_
      refine nz_aload_n (pc := 18) (i := 0) E dX7_drawn_18 rfl rfl ?_
      refine nz_getR (pc := 19) (c := 0) (kf := 1) E rfl rfl (nz_upT nz_uX7) (by decide) (List.mem_cons_of_mem _ nz_w249) rfl rfl dX7_drawn_19 ?_
      obtain ⟨r3, x4, h5, hf⟩ := nz_bnd_t hf
      refine nz_callVV (pc := 22) (c0 := 7) (As := [.ref (q 3)]) E rfl rfl (k_X0_copyFrom 7 3 nz_g7 nz_g3 _ _ h5) (nz_cwV E nz_w316 nz_w317 nz_w318 nz_w60 nz_w319 ds_X0_copyFrom ⟨Nat.le_of_ble_eq_true rfl, Nat.le_of_ble_eq_true rfl⟩ rfl rfl) rfl rfl (Nat.le_of_ble_eq_true rfl) dX7_drawn_22 ?_
      refine nz_iconst (pc := 25) (v := 0) E dX7_drawn_25 (by decide) ?_
      refine nz_istore_n (pc := 26) (i := 2) E dX7_drawn_26 rfl (by decide) rfl ?_
      refine nz_iconst (pc := 27) (v := 0) E dX7_drawn_27 (by decide) ?_
      refine nz_istore_n (pc := 28) (i := 3) E dX7_drawn_28 rfl (by decide) rfl ?_
      refine nz_weak (lv' := [(0, .ref (q 0)), (1, .int _), (2, .int _), (3, .int _)]) ⟨rfl, rfl, rfl, rfl, trivial⟩ ?_
      refine w_X7_drawn_29 _ E hR _ _ _ _ _ hf (fun u20 u21 x19 hf => ?_)
      refine nz_iload_n (pc := 89) (i := 2) E dX7_drawn_89 rfl rfl ?_
      exact nz_iret (pc := 90) E hR rfl hf dX7_drawn_90
    · have hf := nz_ite_f hf h2
      refine nz_bipush (pc := 11) (v := -2) E dX7_drawn_11 (by decide) ?_
      exact nz_iret (pc := 13) E hR rfl hf dX7_drawn_13
def f_X4_store (g : Nat) (a0 : Int32) (x : nz_S) : Option (Unit × nz_S) :=
  nz_bnd (f_X2_store 27 2 g a0 x) fun r1 x2 =>
  nz_chk (nz_in a0 2) <|
  let x5 : nz_S := nz_put x2 32 (a0).toNatClampNeg (1 : Int32)
  some ((), x5)
theorem ds_X4_store : nz_dsc yX4_store 2 := by unfold nz_dsc; decide +kernel
set_option maxHeartbeats 4000000 in
set_option maxRecDepth 20000 in
theorem k_X4_store {l : Launch} {w : nz_O} {q : Nat → Nat} (g : Nat) (hg : nz_isG g) (a0 : Int32) (x : nz_S) (o : Unit × nz_S) (hf : f_X4_store g a0 x = some o) : nz_MV l yX4_store (nz_T yX4_store cX4_store 3 (none)) (nz_R 2 63) w q nz_tK [.ref (q 26), .int a0, .ref (q g)] x o := by
  refine nz_enterV (by decide) rfl (Nat.le_of_ble_eq_true rfl) rfl rfl ?_
  intro κ E hw hlq hR
  subst hw; subst hlq
  unfold f_X4_store at hf
  refine nz_weak (lv' := [(0, .ref (q 26)), (1, .int a0), (2, .ref (q g))]) ⟨rfl, rfl, rfl, trivial⟩ ?_
  refine nz_aload_n (pc := 0) (i := 0) E dX4_store_0 rfl rfl ?_
  refine nz_getR (pc := 1) (c := 26) (kf := 0) E rfl rfl (nz_upT nz_uX4) (by decide) (List.mem_cons_of_mem _ nz_w219) rfl rfl dX4_store_1 ?_
  refine nz_iload_n (pc := 4) (i := 1) E dX4_store_4 rfl rfl ?_
  refine nz_aload_n (pc := 5) (i := 2) E dX4_store_5 rfl rfl ?_
  obtain ⟨r1, x2, h3, hf⟩ := nz_bnd_t hf
  refine nz_callVV (pc := 6) (c0 := 27) (As := [.int _, .ref (q g)]) E rfl rfl (k_X2_store 27 2 g nz_h27 hg _ _ _ h3) (nz_cwV E nz_w660 nz_w460 nz_w461 nz_w63 nz_w462 ds_X2_store ⟨Nat.le_of_ble_eq_true rfl, Nat.le_of_ble_eq_true rfl⟩ rfl rfl) rfl rfl (Nat.le_of_ble_eq_true rfl) dX4_store_6 ?_
  refine nz_aload_n (pc := 9) (i := 0) E dX4_store_9 rfl rfl ?_
  refine nz_getR (pc := 10) (c := 26) (kf := 1) E rfl rfl (nz_upT nz_uX4) (by decide) (List.mem_cons_of_mem _ nz_w220) rfl rfl dX4_store_10 ?_
  refine nz_iload_n (pc := 13) (i := 1) E dX4_store_13 rfl rfl ?_
  refine nz_iconst (pc := 14) (v := 1) E dX4_store_14 (by decide) ?_
  obtain ⟨h4, hf⟩ := nz_chk_t hf
  refine nz_zast (pc := 15) (c := 32) E rfl h4 rfl dX4_store_15 ?_
  exact nz_vret (pc := 16) E hR hf dX4_store_16
def f_X7_keep (a0 : Int32) (x : nz_S) : Option (Int32 × nz_S) :=
  if a0 < (0 : Int32) then
    some ((-1 : Int32), x)
  else
    if a0 < (2 : Int32) then
      nz_bnd (f_X4_store 3 a0 x) fun r3 x4 =>
      nz_bnd (f_X0_countArcs 3  x4) fun r6 x7 =>
      some (r6, x7)
    else
      some ((-1 : Int32), x)
theorem ds_X7_keep : nz_dsc yX7_keep 1 := by unfold nz_dsc; decide +kernel
set_option maxHeartbeats 4000000 in
set_option maxRecDepth 20000 in
theorem k_X7_keep {l : Launch} {w : nz_O} {q : Nat → Nat} (a0 : Int32) (x : nz_S) (o : Int32 × nz_S) (hf : f_X7_keep a0 x = some o) : nz_MI l yX7_keep (nz_T yX7_keep cX7_keep 2 (some .int)) (nz_R 3 85) w q nz_tK [.ref (q 0), .int a0] x o := by
  refine nz_enterI (by decide) rfl (Nat.le_of_ble_eq_true rfl) rfl rfl ?_
  intro κ E hw hlq hR
  subst hw; subst hlq
  unfold f_X7_keep at hf
  refine nz_weak (lv' := [(0, .ref (q 0)), (1, .int a0)]) ⟨rfl, rfl, trivial⟩ ?_
  refine nz_iload_n (pc := 0) (i := 1) E dX7_keep_0 rfl rfl ?_
  refine nz_if_lt (pc := 1) (tgt := 9) E dX7_keep_1 (by decide) (fun h1 => ?_) (fun h1 => ?_)
  · have hf := nz_ite_t hf h1
    refine nz_iconst (pc := 9) (v := -1) E dX7_keep_9 (by decide) ?_
    exact nz_iret (pc := 10) E hR rfl hf dX7_keep_10
  · have hf := nz_ite_f hf h1
    refine nz_iload_n (pc := 4) (i := 1) E dX7_keep_4 rfl rfl ?_
    refine nz_iconst (pc := 5) (v := 2) E dX7_keep_5 (by decide) ?_
    refine nz_icmp_lt (pc := 6) (tgt := 11) E dX7_keep_6 (by decide) (fun h2 => ?_) (fun h2 => ?_)
    · have hf := nz_ite_t hf h2
      refine nz_aload_n (pc := 11) (i := 0) E dX7_keep_11 rfl rfl ?_
      refine nz_getR (pc := 12) (c := 0) (kf := 5) E rfl rfl (nz_upT nz_uX7) (by decide) (List.mem_cons_of_mem _ nz_w253) rfl rfl dX7_keep_12 ?_
      refine nz_iload_n (pc := 15) (i := 1) E dX7_keep_15 rfl rfl ?_
      refine nz_aload_n (pc := 16) (i := 0) E dX7_keep_16 rfl rfl ?_
      refine nz_getR (pc := 17) (c := 0) (kf := 1) E rfl rfl (nz_upT nz_uX7) (by decide) (List.mem_cons_of_mem _ nz_w249) rfl rfl dX7_keep_17 ?_
      obtain ⟨r3, x4, h5, hf⟩ := nz_bnd_t hf
      refine nz_callVV (pc := 20) (c0 := 26) (As := [.int _, .ref (q 3)]) E rfl rfl (k_X4_store 3 nz_g3 _ _ _ h5) (nz_cwV E nz_w656 nz_w657 nz_w658 nz_w65 nz_w659 ds_X4_store ⟨Nat.le_of_ble_eq_true rfl, Nat.le_of_ble_eq_true rfl⟩ rfl rfl) rfl rfl (Nat.le_of_ble_eq_true rfl) dX7_keep_20 ?_
      refine nz_aload_n (pc := 23) (i := 0) E dX7_keep_23 rfl rfl ?_
      refine nz_getR (pc := 24) (c := 0) (kf := 1) E rfl rfl (nz_upT nz_uX7) (by decide) (List.mem_cons_of_mem _ nz_w249) rfl rfl dX7_keep_24 ?_
      obtain ⟨r6, x7, h8, hf⟩ := nz_bnd_t hf
      refine nz_callVI (pc := 27) (c0 := 3) (As := []) E rfl rfl (k_X0_countArcs 3 nz_g3 _ _ h8) (nz_cwV E nz_w335 nz_w336 nz_w337 nz_w60 nz_w338 ds_X0_countArcs ⟨Nat.le_of_ble_eq_true rfl, Nat.le_of_ble_eq_true rfl⟩ rfl rfl) rfl rfl (Nat.le_of_ble_eq_true rfl) dX7_keep_27 ?_
      exact nz_iret (pc := 30) E hR rfl hf dX7_keep_30
    · have hf := nz_ite_f hf h2
      refine nz_iconst (pc := 9) (v := -1) E dX7_keep_9 (by decide) ?_
      exact nz_iret (pc := 10) E hR rfl hf dX7_keep_10
def f_X4_bringBack (g : Nat) (a0 : Int32) (x : nz_S) : Option (Unit × nz_S) :=
  nz_bnd (f_X2_bringBack 27 2 g a0 x) fun r1 x2 =>
  some ((), x2)
theorem ds_X4_bringBack : nz_dsc yX4_bringBack 2 := by unfold nz_dsc; decide +kernel
set_option maxHeartbeats 4000000 in
set_option maxRecDepth 20000 in
theorem k_X4_bringBack {l : Launch} {w : nz_O} {q : Nat → Nat} (g : Nat) (hg : nz_isG g) (a0 : Int32) (x : nz_S) (o : Unit × nz_S) (hf : f_X4_bringBack g a0 x = some o) : nz_MV l yX4_bringBack (nz_T yX4_bringBack cX4_bringBack 3 (none)) (nz_R 2 63) w q nz_tK [.ref (q 26), .int a0, .ref (q g)] x o := by
  refine nz_enterV (by decide) rfl (Nat.le_of_ble_eq_true rfl) rfl rfl ?_
  intro κ E hw hlq hR
  subst hw; subst hlq
  unfold f_X4_bringBack at hf
  refine nz_weak (lv' := [(0, .ref (q 26)), (1, .int a0), (2, .ref (q g))]) ⟨rfl, rfl, rfl, trivial⟩ ?_
  refine nz_aload_n (pc := 0) (i := 0) E dX4_bringBack_0 rfl rfl ?_
  refine nz_getR (pc := 1) (c := 26) (kf := 0) E rfl rfl (nz_upT nz_uX4) (by decide) (List.mem_cons_of_mem _ nz_w219) rfl rfl dX4_bringBack_1 ?_
  refine nz_iload_n (pc := 4) (i := 1) E dX4_bringBack_4 rfl rfl ?_
  refine nz_aload_n (pc := 5) (i := 2) E dX4_bringBack_5 rfl rfl ?_
  obtain ⟨r1, x2, h3, hf⟩ := nz_bnd_t hf
  refine nz_callVV (pc := 6) (c0 := 27) (As := [.int _, .ref (q g)]) E rfl rfl (k_X2_bringBack 27 2 g nz_h27 hg _ _ _ h3) (nz_cwV E nz_w669 nz_w532 nz_w533 nz_w63 nz_w534 ds_X2_bringBack ⟨Nat.le_of_ble_eq_true rfl, Nat.le_of_ble_eq_true rfl⟩ rfl rfl) rfl rfl (Nat.le_of_ble_eq_true rfl) dX4_bringBack_6 ?_
  exact nz_vret (pc := 9) E hR hf dX4_bringBack_9
def f_X7_again (a0 : Int32) (x : nz_S) : Option (Int32 × nz_S) :=
  if a0 < (0 : Int32) then
    some ((-1 : Int32), x)
  else
    if a0 < (2 : Int32) then
      nz_chk (nz_in a0 2) <|
      if (x.1 32 (a0).toNatClampNeg) = (0 : Int32) then
        some ((-3 : Int32), x)
      else
        nz_bnd (f_X4_bringBack 3 a0 x) fun r5 x6 =>
        nz_bnd (f_X1_forget   x6) fun r8 x9 =>
        nz_bnd (f_X0_countArcs 3  x9) fun r11 x12 =>
        some (r11, x12)
    else
      some ((-1 : Int32), x)
theorem ds_X7_again : nz_dsc yX7_again 1 := by unfold nz_dsc; decide +kernel
set_option maxHeartbeats 4000000 in
set_option maxRecDepth 20000 in
theorem k_X7_again {l : Launch} {w : nz_O} {q : Nat → Nat} (a0 : Int32) (x : nz_S) (o : Int32 × nz_S) (hf : f_X7_again a0 x = some o) : nz_MI l yX7_again (nz_T yX7_again cX7_again 2 (some .int)) (nz_R 3 85) w q nz_tK [.ref (q 0), .int a0] x o := by
  refine nz_enterI (by decide) rfl (Nat.le_of_ble_eq_true rfl) rfl rfl ?_
  intro κ E hw hlq hR
  subst hw; subst hlq
  unfold f_X7_again at hf
  refine nz_weak (lv' := [(0, .ref (q 0)), (1, .int a0)]) ⟨rfl, rfl, trivial⟩ ?_
  refine nz_iload_n (pc := 0) (i := 1) E dX7_again_0 rfl rfl ?_
  refine nz_if_lt (pc := 1) (tgt := 9) E dX7_again_1 (by decide) (fun h1 => ?_) (fun h1 => ?_)
  · have hf := nz_ite_t hf h1
    refine nz_iconst (pc := 9) (v := -1) E dX7_again_9 (by decide) ?_
    exact nz_iret (pc := 10) E hR rfl hf dX7_again_10
  · have hf := nz_ite_f hf h1
    refine nz_iload_n (pc := 4) (i := 1) E dX7_again_4 rfl rfl ?_
    refine nz_iconst (pc := 5) (v := 2) E dX7_again_5 (by decide) ?_
    refine nz_icmp_lt (pc := 6) (tgt := 11) E dX7_again_6 (by decide) (fun h2 => ?_) (fun h2 => ?_)
    · have hf := nz_ite_t hf h2
      refine nz_aload_n (pc := 11) (i := 0) E dX7_again_11 rfl rfl ?_
      refine nz_getR (pc := 12) (c := 0) (kf := 5) E rfl rfl (nz_upT nz_uX7) (by decide) (List.mem_cons_of_mem _ nz_w253) rfl rfl dX7_again_12 ?_
      refine nz_getNR (pc := 15) (c := 26) (kf := 1) E rfl rfl (nz_upT nz_uX4) (by decide) nz_n221 rfl rfl dX7_again_15 ?_
      refine nz_iload_n (pc := 18) (i := 1) E dX7_again_18 rfl rfl ?_
      obtain ⟨h3, hf⟩ := nz_chk_t hf
      refine nz_zald (pc := 19) (c := 32) E rfl h3 dX7_again_19 ?_
      refine nz_if_ne (pc := 20) (tgt := 26) E dX7_again_20 (by decide) (fun h4 => ?_) (fun h4 => ?_)
      · have hf := nz_ite_f hf h4
        refine nz_aload_n (pc := 26) (i := 0) E dX7_again_26 rfl rfl ?_
        refine nz_getR (pc := 27) (c := 0) (kf := 5) E rfl rfl (nz_upT nz_uX7) (by decide) (List.mem_cons_of_mem _ nz_w253) rfl rfl dX7_again_27 ?_
        refine nz_iload_n (pc := 30) (i := 1) E dX7_again_30 rfl rfl ?_
        refine nz_aload_n (pc := 31) (i := 0) E dX7_again_31 rfl rfl ?_
        refine nz_getR (pc := 32) (c := 0) (kf := 1) E rfl rfl (nz_upT nz_uX7) (by decide) (List.mem_cons_of_mem _ nz_w249) rfl rfl dX7_again_32 ?_
        obtain ⟨r5, x6, h7, hf⟩ := nz_bnd_t hf
        refine nz_callVV (pc := 35) (c0 := 26) (As := [.int _, .ref (q 3)]) E rfl rfl (k_X4_bringBack 3 nz_g3 _ _ _ h7) (nz_cwV E nz_w665 nz_w666 nz_w667 nz_w65 nz_w668 ds_X4_bringBack ⟨Nat.le_of_ble_eq_true rfl, Nat.le_of_ble_eq_true rfl⟩ rfl rfl) rfl rfl (Nat.le_of_ble_eq_true rfl) dX7_again_35 ?_
        refine nz_aload_n (pc := 38) (i := 0) E dX7_again_38 rfl rfl ?_
        refine nz_getR (pc := 39) (c := 0) (kf := 4) E rfl rfl (nz_upT nz_uX7) (by decide) (List.mem_cons_of_mem _ nz_w252) rfl rfl dX7_again_39 ?_
        obtain ⟨r8, x9, h10, hf⟩ := nz_bnd_t hf
        refine nz_callVV (pc := 42) (c0 := 20) (As := []) E rfl rfl (k_X1_forget   _ _ h10) (nz_cwV E nz_w323 nz_w324 nz_w325 nz_w62 nz_w326 ds_X1_forget ⟨Nat.le_of_ble_eq_true rfl, Nat.le_of_ble_eq_true rfl⟩ rfl rfl) rfl rfl (Nat.le_of_ble_eq_true rfl) dX7_again_42 ?_
        refine nz_aload_n (pc := 45) (i := 0) E dX7_again_45 rfl rfl ?_
        refine nz_getR (pc := 46) (c := 0) (kf := 1) E rfl rfl (nz_upT nz_uX7) (by decide) (List.mem_cons_of_mem _ nz_w249) rfl rfl dX7_again_46 ?_
        obtain ⟨r11, x12, h13, hf⟩ := nz_bnd_t hf
        refine nz_callVI (pc := 49) (c0 := 3) (As := []) E rfl rfl (k_X0_countArcs 3 nz_g3 _ _ h13) (nz_cwV E nz_w335 nz_w336 nz_w337 nz_w60 nz_w338 ds_X0_countArcs ⟨Nat.le_of_ble_eq_true rfl, Nat.le_of_ble_eq_true rfl⟩ rfl rfl) rfl rfl (Nat.le_of_ble_eq_true rfl) dX7_again_49 ?_
        exact nz_iret (pc := 52) E hR rfl hf dX7_again_52
      · have hf := nz_ite_t hf h4
        refine nz_bipush (pc := 23) (v := -3) E dX7_again_23 (by decide) ?_
        exact nz_iret (pc := 25) E hR rfl hf dX7_again_25
    · have hf := nz_ite_f hf h2
      refine nz_iconst (pc := 9) (v := -1) E dX7_again_9 (by decide) ?_
      exact nz_iret (pc := 10) E hR rfl hf dX7_again_10
