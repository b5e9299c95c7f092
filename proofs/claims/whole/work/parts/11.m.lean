def f_X5_sortArcs_2 (g : Nat) (c2 : Int32) : Nat → Int32 → nz_S → (Int32 → nz_S → Option (Unit × nz_S)) → Option (Unit × nz_S)
  | 0, _, _, _ => none
  | fu + 1, w3, x, K =>
  nz_chk (nz_in c2 12) <|
  if (x.1 (g + 2) (c2).toNatClampNeg) ≤ w3 then
    K w3 x
  else
    nz_bnd (f_X0_target g c2 w3 x) fun r3 x4 =>
    nz_chk (nz_in c2 12) <|
    nz_chk (nz_in c2 12) <|
    let x8 : nz_S := nz_put x4 15 (c2).toNatClampNeg ((x4.1 15 (c2).toNatClampNeg) ||| ((1 : Int32) <<< (r3 &&& 31)))
    nz_chk (nz_in r3 12) <|
    if (((x8.1 14 (r3).toNatClampNeg) >>> (c2 &&& 31)) &&& (1 : Int32)) = (0 : Int32) then
      nz_chk (nz_in r3 12) <|
      nz_chk (nz_in r3 12) <|
      let x13 : nz_S := nz_put x8 17 (r3).toNatClampNeg ((x8.1 17 (r3).toNatClampNeg) ||| ((1 : Int32) <<< (c2 &&& 31)))
      let v14 : Int32 := w3 + 1
      f_X5_sortArcs_2 g c2 fu v14 x13 K
    else
      nz_chk (nz_in r3 12) <|
      nz_chk (nz_in r3 12) <|
      let x17 : nz_S := nz_put x8 16 (r3).toNatClampNeg ((x8.1 16 (r3).toNatClampNeg) ||| ((1 : Int32) <<< (c2 &&& 31)))
      let x18 : nz_S := nz_put x17 11 10 ((x17.1 11 10) + (1 : Int32))
      let v19 : Int32 := w3 + 1
      f_X5_sortArcs_2 g c2 fu v19 x18 K
def f_X5_sortArcs (g : Nat) (a0 : Int32) (x : nz_S) : Option (Unit × nz_S) :=
  f_X5_sortArcs_2 g a0 nz_F (0 : Int32) x fun u21 x20 =>
    some ((), x20)
theorem ds_X5_sortArcs : nz_dsc yX5_sortArcs 2 := by unfold nz_dsc; decide +kernel
set_option maxHeartbeats 4000000 in
set_option maxRecDepth 20000 in
theorem w_X5_sortArcs_2 {κ : nz_C} {q : Nat → Nat} {o : Unit × nz_S} (g : Nat) (hg : nz_isG g) (c2 : Int32) (E : nz_Env κ q nz_tK 5 cX5_sortArcs RX5 (nz_T yX5_sortArcs cX5_sortArcs 5 (none)) (nz_R 1 22)) (hR : nz_RV κ q nz_tK o) : ∀ (fu : Nat) (w3 : Int32) (x : nz_S) (K : Int32 → nz_S → Option (Unit × nz_S)), f_X5_sortArcs_2 g c2 fu w3 x K = some o → (∀ (w3 : Int32) (x : nz_S), K w3 x = some o → nz_St κ q nz_tK 5 92 [(0, .ref (q 11)), (1, .ref (q g)), (2, .int c2), (3, .int w3)] [] x) → nz_St κ q nz_tK 5 2 [(0, .ref (q 11)), (1, .ref (q g)), (2, .int c2), (3, .int w3)] [] x := by
  intro fu
  induction fu with
  | zero => intro w3 x K hf; rw [f_X5_sortArcs_2] at hf; cases hf
  | succ fu ih =>
    intro w3 x K hf hK
    rw [f_X5_sortArcs_2] at hf
    refine nz_iload_n (pc := 2) (i := 3) E dX5_sortArcs_2 rfl rfl ?_
    refine nz_aload_n (pc := 3) (i := 1) E dX5_sortArcs_3 rfl rfl ?_
    refine nz_getNR (pc := 4) (c := g) (kf := 1) E hg.1 rfl (nz_upT nz_uX0) (by decide) nz_n105 rfl rfl dX5_sortArcs_4 ?_
    refine nz_iload_n (pc := 7) (i := 2) E dX5_sortArcs_7 rfl rfl ?_
    obtain ⟨h1, hf⟩ := nz_chk_t hf
    refine nz_iald (pc := 8) (c := (g + 2)) E hg.2.2.1 h1 dX5_sortArcs_8 ?_
    refine nz_icmp_ge (pc := 9) (tgt := 92) E dX5_sortArcs_9 (by decide) (fun h2 => ?_) (fun h2 => ?_)
    · have hf := nz_ite_t hf h2
      refine nz_weak (lv' := [(0, .ref (q 11)), (1, .ref (q g)), (2, .int _), (3, .int _)]) ⟨rfl, rfl, rfl, rfl, trivial⟩ ?_
      exact hK _ _ hf
    · have hf := nz_ite_f hf h2
      refine nz_aload_n (pc := 12) (i := 1) E dX5_sortArcs_12 rfl rfl ?_
      refine nz_iload_n (pc := 13) (i := 2) E dX5_sortArcs_13 rfl rfl ?_
      refine nz_iload_n (pc := 14) (i := 3) E dX5_sortArcs_14 rfl rfl ?_
      obtain ⟨r3, x4, h5, hf⟩ := nz_bnd_t hf
      refine nz_callVI (pc := 15) (c0 := g) (As := [.int _, .int _]) E hg.1 rfl (k_X0_target g hg _ _ _ _ h5) (nz_cwV E nz_w357 nz_w358 nz_w359 nz_w60 nz_w360 ds_X0_target ⟨Nat.le_of_ble_eq_true rfl, Nat.le_of_ble_eq_true rfl⟩ rfl rfl) rfl rfl (Nat.le_of_ble_eq_true rfl) dX5_sortArcs_15 ?_
      refine nz_istore (pc := 18) (i := 4) E dX5_sortArcs_18 (by decide) rfl ?_
      refine nz_aload_n (pc := 20) (i := 0) E dX5_sortArcs_20 rfl rfl ?_
      refine nz_getR (pc := 21) (c := 11) (kf := 3) E rfl rfl (nz_upT nz_uX5) (by decide) (List.mem_cons_of_mem _ nz_w134) rfl rfl dX5_sortArcs_21 ?_
      refine nz_iload_n (pc := 24) (i := 2) E dX5_sortArcs_24 rfl rfl ?_
      refine nz_dup2 (pc := 25) E dX5_sortArcs_25 rfl rfl ?_
      obtain ⟨h6, hf⟩ := nz_chk_t hf
      refine nz_iald (pc := 26) (c := 15) E rfl h6 dX5_sortArcs_26 ?_
      refine nz_iconst (pc := 27) (v := 1) E dX5_sortArcs_27 (by decide) ?_
      refine nz_iload (pc := 28) (i := 4) E dX5_sortArcs_28 rfl ?_
      refine nz_ishl (pc := 30) E dX5_sortArcs_30 ?_
      refine nz_ior (pc := 31) E dX5_sortArcs_31 ?_
      obtain ⟨h7, hf⟩ := nz_chk_t hf
      refine nz_iast (pc := 32) (c := 15) E rfl h7 dX5_sortArcs_32 ?_
      refine nz_aload_n (pc := 33) (i := 0) E dX5_sortArcs_33 rfl rfl ?_
      refine nz_getR (pc := 34) (c := 11) (kf := 2) E rfl rfl (nz_upT nz_uX5) (by decide) (List.mem_cons_of_mem _ nz_w132) rfl rfl dX5_sortArcs_34 ?_
      refine nz_iload (pc := 37) (i := 4) E dX5_sortArcs_37 rfl ?_
      obtain ⟨h9, hf⟩ := nz_chk_t hf
      refine nz_iald (pc := 39) (c := 14) E rfl h9 dX5_sortArcs_39 ?_
      refine nz_iload_n (pc := 40) (i := 2) E dX5_sortArcs_40 rfl rfl ?_
      refine nz_ishr (pc := 41) E dX5_sortArcs_41 ?_
      refine nz_iconst (pc := 42) (v := 1) E dX5_sortArcs_42 (by decide) ?_
      refine nz_iand (pc := 43) E dX5_sortArcs_43 ?_
      refine nz_if_eq (pc := 44) (tgt := 73) E dX5_sortArcs_44 (by decide) (fun h10 => ?_) (fun h10 => ?_)
      · have hf := nz_ite_t hf h10
        refine nz_aload_n (pc := 73) (i := 0) E dX5_sortArcs_73 rfl rfl ?_
        refine nz_getR (pc := 74) (c := 11) (kf := 5) E rfl rfl (nz_upT nz_uX5) (by decide) (List.mem_cons_of_mem _ nz_w137) rfl rfl dX5_sortArcs_74 ?_
        refine nz_iload (pc := 77) (i := 4) E dX5_sortArcs_77 rfl ?_
        refine nz_dup2 (pc := 79) E dX5_sortArcs_79 rfl rfl ?_
        obtain ⟨h11, hf⟩ := nz_chk_t hf
        refine nz_iald (pc := 80) (c := 17) E rfl h11 dX5_sortArcs_80 ?_
        refine nz_iconst (pc := 81) (v := 1) E dX5_sortArcs_81 (by decide) ?_
        refine nz_iload_n (pc := 82) (i := 2) E dX5_sortArcs_82 rfl rfl ?_
        refine nz_ishl (pc := 83) E dX5_sortArcs_83 ?_
        refine nz_ior (pc := 84) E dX5_sortArcs_84 ?_
        obtain ⟨h12, hf⟩ := nz_chk_t hf
        refine nz_iast (pc := 85) (c := 17) E rfl h12 dX5_sortArcs_85 ?_
        refine nz_iinc (pc := 86) (i := 3) (w := 1) E dX5_sortArcs_86 rfl (by decide) (by decide) rfl ?_
        refine nz_goto (pc := 89) (tgt := 2) E dX5_sortArcs_89 (by decide) ?_
        refine nz_weak (lv' := [(0, .ref (q 11)), (1, .ref (q g)), (2, .int _), (3, .int _)]) ⟨rfl, rfl, rfl, rfl, trivial⟩ ?_
        exact ih _ _ _ hf hK
      · have hf := nz_ite_f hf h10
        refine nz_aload_n (pc := 47) (i := 0) E dX5_sortArcs_47 rfl rfl ?_
        refine nz_getR (pc := 48) (c := 11) (kf := 4) E rfl rfl (nz_upT nz_uX5) (by decide) (List.mem_cons_of_mem _ nz_w136) rfl rfl dX5_sortArcs_48 ?_
        refine nz_iload (pc := 51) (i := 4) E dX5_sortArcs_51 rfl ?_
        refine nz_dup2 (pc := 53) E dX5_sortArcs_53 rfl rfl ?_
        obtain ⟨h15, hf⟩ := nz_chk_t hf
        refine nz_iald (pc := 54) (c := 16) E rfl h15 dX5_sortArcs_54 ?_
        refine nz_iconst (pc := 55) (v := 1) E dX5_sortArcs_55 (by decide) ?_
        refine nz_iload_n (pc := 56) (i := 2) E dX5_sortArcs_56 rfl rfl ?_
        refine nz_ishl (pc := 57) E dX5_sortArcs_57 ?_
        refine nz_ior (pc := 58) E dX5_sortArcs_58 ?_
        obtain ⟨h16, hf⟩ := nz_chk_t hf
        refine nz_iast (pc := 59) (c := 16) E rfl h16 dX5_sortArcs_59 ?_
        refine nz_aload_n (pc := 60) (i := 0) E dX5_sortArcs_60 rfl rfl ?_
        refine nz_dup (pc := 61) E dX5_sortArcs_61 rfl ?_
        refine nz_getI (pc := 62) (c := 11) (kf := 10) E rfl rfl (nz_upT nz_uX5) (by decide) (List.mem_cons_of_mem _ nz_w147) rfl rfl dX5_sortArcs_62 ?_
        refine nz_iconst (pc := 65) (v := 1) E dX5_sortArcs_65 (by decide) ?_
        refine nz_iadd (pc := 66) E dX5_sortArcs_66 ?_
        refine nz_putI (pc := 67) (c := 11) (kf := 10) E rfl rfl (nz_upT nz_uX5) (by decide) (List.mem_cons_of_mem _ nz_w147) rfl tyX5 tyX5_ok nmX5 rfl (tyX5_ok 10 (by decide)) rfl dX5_sortArcs_67 ?_
        refine nz_goto (pc := 70) (tgt := 86) E dX5_sortArcs_70 (by decide) ?_
        refine nz_iinc (pc := 86) (i := 3) (w := 1) E dX5_sortArcs_86 rfl (by decide) (by decide) rfl ?_
        refine nz_goto (pc := 89) (tgt := 2) E dX5_sortArcs_89 (by decide) ?_
        refine nz_weak (lv' := [(0, .ref (q 11)), (1, .ref (q g)), (2, .int _), (3, .int _)]) ⟨rfl, rfl, rfl, rfl, trivial⟩ ?_
        exact ih _ _ _ hf hK
set_option maxHeartbeats 4000000 in
set_option maxRecDepth 20000 in
theorem k_X5_sortArcs {l : Launch} {w : nz_O} {q : Nat → Nat} (g : Nat) (hg : nz_isG g) (a0 : Int32) (x : nz_S) (o : Unit × nz_S) (hf : f_X5_sortArcs g a0 x = some o) : nz_MV l yX5_sortArcs (nz_T yX5_sortArcs cX5_sortArcs 5 (none)) (nz_R 1 22) w q nz_tK [.ref (q 11), .ref (q g), .int a0] x o := by
  refine nz_enterV (by decide) rfl (Nat.le_of_ble_eq_true rfl) rfl rfl ?_
  intro κ E hw hlq hR
  subst hw; subst hlq
  unfold f_X5_sortArcs at hf
  refine nz_weak (lv' := [(0, .ref (q 11)), (1, .ref (q g)), (2, .int a0)]) ⟨rfl, rfl, rfl, trivial⟩ ?_
  refine nz_iconst (pc := 0) (v := 0) E dX5_sortArcs_0 (by decide) ?_
  refine nz_istore_n (pc := 1) (i := 3) E dX5_sortArcs_1 rfl (by decide) rfl ?_
  refine nz_weak (lv' := [(0, .ref (q 11)), (1, .ref (q g)), (2, .int _), (3, .int _)]) ⟨rfl, rfl, rfl, rfl, trivial⟩ ?_
  refine w_X5_sortArcs_2 g hg _ E hR _ _ _ _ hf (fun u21 x20 hf => ?_)
  exact nz_vret (pc := 92) E hR hf dX5_sortArcs_92
def f_X5_leaderOf_4 : Nat → Int32 → Int32 → nz_S → (Int32 → Int32 → nz_S → Option (Int32 × nz_S)) → Option (Int32 × nz_S)
  | 0, _, _, _, _ => none
  | fu + 1, w2, w3, x, K =>
  if (12 : Int32) ≤ w3 then
    K w2 w3 x
  else
    nz_chk (nz_in w2 12) <|
    if (x.1 18 (w2).toNatClampNeg) = (-9 : Int32) then
      K w2 w3 x
    else
      nz_chk (nz_in w2 12) <|
      let v5 : Int32 := (x.1 18 (w2).toNatClampNeg)
      let v6 : Int32 := w3 + 1
      f_X5_leaderOf_4 fu v5 v6 x K
def f_X5_leaderOf (a0 : Int32) (x : nz_S) : Option (Int32 × nz_S) :=
  f_X5_leaderOf_4 nz_F a0 (0 : Int32) x fun u8 u9 x7 =>
    some (u8, x7)
theorem ds_X5_leaderOf : nz_dsc yX5_leaderOf 1 := by unfold nz_dsc; decide +kernel
set_option maxHeartbeats 4000000 in
set_option maxRecDepth 20000 in
theorem w_X5_leaderOf_4 {κ : nz_C} {q : Nat → Nat} {o : Int32 × nz_S} (E : nz_Env κ q nz_tK 4 cX5_leaderOf RX5 (nz_T yX5_leaderOf cX5_leaderOf 4 (some .int)) (nz_R 0 0)) (hR : nz_RI κ q nz_tK .int o) : ∀ (fu : Nat) (w2 : Int32) (w3 : Int32) (x : nz_S) (K : Int32 → Int32 → nz_S → Option (Int32 × nz_S)), f_X5_leaderOf_4 fu w2 w3 x K = some o → (∀ (w2 : Int32) (w3 : Int32) (x : nz_S), K w2 w3 x = some o → nz_St κ q nz_tK 4 34 [(0, .ref (q 11)), (2, .int w2), (3, .int w3)] [] x) → nz_St κ q nz_tK 4 4 [(0, .ref (q 11)), (2, .int w2), (3, .int w3)] [] x := by
  intro fu
  induction fu with
  | zero => intro w2 w3 x K hf; rw [f_X5_leaderOf_4] at hf; cases hf
  | succ fu ih =>
    intro w2 w3 x K hf hK
    rw [f_X5_leaderOf_4] at hf
    refine nz_iload_n (pc := 4) (i := 3) E dX5_leaderOf_4 rfl rfl ?_
    refine nz_bipush (pc := 5) (v := 12) E dX5_leaderOf_5 (by decide) ?_
    refine nz_icmp_ge (pc := 7) (tgt := 34) E dX5_leaderOf_7 (by decide) (fun h1 => ?_) (fun h1 => ?_)
    · have hf := nz_ite_t hf h1
      refine nz_weak (lv' := [(0, .ref (q 11)), (2, .int _), (3, .int _)]) ⟨rfl, rfl, rfl, trivial⟩ ?_
      exact hK _ _ _ hf
    · have hf := nz_ite_f hf h1
      refine nz_aload_n (pc := 10) (i := 0) E dX5_leaderOf_10 rfl rfl ?_
      refine nz_getR (pc := 11) (c := 11) (kf := 6) E rfl rfl (nz_upT nz_uX5) (by decide) (List.mem_cons_of_mem _ nz_w139) rfl rfl dX5_leaderOf_11 ?_
      refine nz_iload_n (pc := 14) (i := 2) E dX5_leaderOf_14 rfl rfl ?_
      obtain ⟨h2, hf⟩ := nz_chk_t hf
      refine nz_iald (pc := 15) (c := 18) E rfl h2 dX5_leaderOf_15 ?_
      refine nz_bipush (pc := 16) (v := -9) E dX5_leaderOf_16 (by decide) ?_
      refine nz_icmp_eq (pc := 18) (tgt := 34) E dX5_leaderOf_18 (by decide) (fun h3 => ?_) (fun h3 => ?_)
      · have hf := nz_ite_t hf h3
        refine nz_weak (lv' := [(0, .ref (q 11)), (2, .int _), (3, .int _)]) ⟨rfl, rfl, rfl, trivial⟩ ?_
        exact hK _ _ _ hf
      · have hf := nz_ite_f hf h3
        refine nz_aload_n (pc := 21) (i := 0) E dX5_leaderOf_21 rfl rfl ?_
        refine nz_getR (pc := 22) (c := 11) (kf := 6) E rfl rfl (nz_upT nz_uX5) (by decide) (List.mem_cons_of_mem _ nz_w139) rfl rfl dX5_leaderOf_22 ?_
        refine nz_iload_n (pc := 25) (i := 2) E dX5_leaderOf_25 rfl rfl ?_
        obtain ⟨h4, hf⟩ := nz_chk_t hf
        refine nz_iald (pc := 26) (c := 18) E rfl h4 dX5_leaderOf_26 ?_
        refine nz_istore_n (pc := 27) (i := 2) E dX5_leaderOf_27 rfl (by decide) rfl ?_
        refine nz_iinc (pc := 28) (i := 3) (w := 1) E dX5_leaderOf_28 rfl (by decide) (by decide) rfl ?_
        refine nz_goto (pc := 31) (tgt := 4) E dX5_leaderOf_31 (by decide) ?_
        refine nz_weak (lv' := [(0, .ref (q 11)), (2, .int _), (3, .int _)]) ⟨rfl, rfl, rfl, trivial⟩ ?_
        exact ih _ _ _ _ hf hK
set_option maxHeartbeats 4000000 in
set_option maxRecDepth 20000 in
theorem k_X5_leaderOf {l : Launch} {w : nz_O} {q : Nat → Nat} (a0 : Int32) (x : nz_S) (o : Int32 × nz_S) (hf : f_X5_leaderOf a0 x = some o) : nz_MI l yX5_leaderOf (nz_T yX5_leaderOf cX5_leaderOf 4 (some .int)) (nz_R 0 0) w q nz_tK [.ref (q 11), .int a0] x o := by
  refine nz_enterI (by decide) rfl (Nat.le_of_ble_eq_true rfl) rfl rfl ?_
  intro κ E hw hlq hR
  subst hw; subst hlq
  unfold f_X5_leaderOf at hf
  refine nz_weak (lv' := [(0, .ref (q 11)), (1, .int a0)]) ⟨rfl, rfl, trivial⟩ ?_
  refine nz_iload_n (pc := 0) (i := 1) E dX5_leaderOf_0 rfl rfl ?_
  refine nz_istore_n (pc := 1) (i := 2) E dX5_leaderOf_1 rfl (by decide) rfl ?_
  refine nz_iconst (pc := 2) (v := 0) E dX5_leaderOf_2 (by decide) ?_
  refine nz_istore_n (pc := 3) (i := 3) E dX5_leaderOf_3 rfl (by decide) rfl ?_
  refine nz_weak (lv' := [(0, .ref (q 11)), (2, .int _), (3, .int _)]) ⟨rfl, rfl, rfl, trivial⟩ ?_
  refine w_X5_leaderOf_4 E hR _ _ _ _ _ hf (fun u8 u9 x7 hf => ?_)
  refine nz_iload_n (pc := 34) (i := 2) E dX5_leaderOf_34 rfl rfl ?_
  exact nz_iret (pc := 35) E hR rfl hf dX5_leaderOf_35
def f_X5_leadersOf_4 (c1 : Int32) : Nat → Int32 → Int32 → nz_S → (Int32 → Int32 → nz_S → Option (Int32 × nz_S)) → Option (Int32 × nz_S)
  | 0, _, _, _, _ => none
  | fu + 1, w2, w3, x, K =>
  if (12 : Int32) ≤ w3 then
    K w2 w3 x
  else
    if ((c1 >>> (w3 &&& 31)) &&& (1 : Int32)) = (0 : Int32) then
      let v3 : Int32 := w3 + 1
      f_X5_leadersOf_4 c1 fu w2 v3 x K
    else
      nz_bnd (f_X5_leaderOf  w3 x) fun r4 x5 =>
      let v7 : Int32 := (w2 ||| ((1 : Int32) <<< (r4 &&& 31)))
      let v8 : Int32 := w3 + 1
      f_X5_leadersOf_4 c1 fu v7 v8 x5 K
def f_X5_leadersOf (a0 : Int32) (x : nz_S) : Option (Int32 × nz_S) :=
  f_X5_leadersOf_4 a0 nz_F (0 : Int32) (0 : Int32) x fun u10 u11 x9 =>
    some (u10, x9)
theorem ds_X5_leadersOf : nz_dsc yX5_leadersOf 1 := by unfold nz_dsc; decide +kernel
set_option maxHeartbeats 4000000 in
set_option maxRecDepth 20000 in
theorem w_X5_leadersOf_4 {κ : nz_C} {q : Nat → Nat} {o : Int32 × nz_S} (c1 : Int32) (E : nz_Env κ q nz_tK 4 cX5_leadersOf RX5 (nz_T yX5_leadersOf cX5_leadersOf 4 (some .int)) (nz_R 1 23)) (hR : nz_RI κ q nz_tK .int o) : ∀ (fu : Nat) (w2 : Int32) (w3 : Int32) (x : nz_S) (K : Int32 → Int32 → nz_S → Option (Int32 × nz_S)), f_X5_leadersOf_4 c1 fu w2 w3 x K = some o → (∀ (w2 : Int32) (w3 : Int32) (x : nz_S), K w2 w3 x = some o → nz_St κ q nz_tK 4 34 [(0, .ref (q 11)), (1, .int c1), (2, .int w2), (3, .int w3)] [] x) → nz_St κ q nz_tK 4 4 [(0, .ref (q 11)), (1, .int c1), (2, .int w2), (3, .int w3)] [] x := by
  intro fu
  induction fu with
  | zero => intro w2 w3 x K hf; rw [f_X5_leadersOf_4] at hf; cases hf
  | succ fu ih =>
    intro w2 w3 x K hf hK
    rw [f_X5_leadersOf_4] at hf
    refine nz_iload_n (pc := 4) (i := 3) E dX5_leadersOf_4 rfl rfl ?_
    refine nz_bipush (pc := 5) (v := 12) E dX5_leadersOf_5 (by decide) ?_
    refine nz_icmp_ge (pc := 7) (tgt := 34) E dX5_leadersOf_7 (by decide) (fun h1 => ?_) (fun h1 => ?_)
    · have hf := nz_ite_t hf h1
      refine nz_weak (lv' := [(0, .ref (q 11)), (1, .int _), (2, .int _), (3, .int _)]) ⟨rfl, rfl, rfl, rfl, trivial⟩ ?_
      exact hK _ _ _ hf
    · have hf := nz_ite_f hf h1
      refine nz_iload_n (pc := 10) (i := 1) E dX5_leadersOf_10 rfl rfl ?_
      refine nz_iload_n (pc := 11) (i := 3) E dX5_leadersOf_11 rfl rfl ?_
      refine nz_ishr (pc := 12) E dX5_leadersOf_12 ?_
      refine nz_iconst (pc := 13) (v := 1) E dX5_leadersOf_13 (by decide) ?_
      refine nz_iand (pc := 14) E dX5_leadersOf_14 ?_
      refine nz_if_eq (pc := 15) (tgt := 28) E dX5_leadersOf_15 (by decide) (fun h2 => ?_) (fun h2 => ?_)
      · have hf := nz_ite_t hf h2
        refine nz_iinc (pc := 28) (i := 3) (w := 1) E dX5_leadersOf_28 rfl (by decide) (by decide) rfl ?_
        refine nz_goto (pc := 31) (tgt := 4) E dX5_leadersOf_31 (by decide) ?_
        refine nz_weak (lv' := [(0, .ref (q 11)), (1, .int _), (2, .int _), (3, .int _)]) ⟨rfl, rfl, rfl, rfl, trivial⟩ ?_
        exact ih _ _ _ _ hf hK
      · have hf := nz_ite_f hf h2
        refine nz_iload_n (pc := 18) (i := 2) E dX5_leadersOf_18 rfl rfl ?_
        refine nz_iconst (pc := 19) (v := 1) E dX5_leadersOf_19 (by decide) ?_
        refine nz_aload_n (pc := 20) (i := 0) E dX5_leadersOf_20 rfl rfl ?_
        refine nz_iload_n (pc := 21) (i := 3) E dX5_leadersOf_21 rfl rfl ?_
        obtain ⟨r4, x5, h6, hf⟩ := nz_bnd_t hf
        refine nz_callVI (pc := 22) (c0 := 11) (As := [.int _]) E rfl rfl (k_X5_leaderOf   _ _ _ h6) (nz_cwV E nz_w377 nz_w379 nz_w6 nz_w61 nz_w380 ds_X5_leaderOf ⟨Nat.le_of_ble_eq_true rfl, Nat.le_of_ble_eq_true rfl⟩ rfl rfl) rfl rfl (Nat.le_of_ble_eq_true rfl) dX5_leadersOf_22 ?_
        refine nz_ishl (pc := 25) E dX5_leadersOf_25 ?_
        refine nz_ior (pc := 26) E dX5_leadersOf_26 ?_
        refine nz_istore_n (pc := 27) (i := 2) E dX5_leadersOf_27 rfl (by decide) rfl ?_
        refine nz_iinc (pc := 28) (i := 3) (w := 1) E dX5_leadersOf_28 rfl (by decide) (by decide) rfl ?_
        refine nz_goto (pc := 31) (tgt := 4) E dX5_leadersOf_31 (by decide) ?_
        refine nz_weak (lv' := [(0, .ref (q 11)), (1, .int _), (2, .int _), (3, .int _)]) ⟨rfl, rfl, rfl, rfl, trivial⟩ ?_
        exact ih _ _ _ _ hf hK
set_option maxHeartbeats 4000000 in
set_option maxRecDepth 20000 in
theorem k_X5_leadersOf {l : Launch} {w : nz_O} {q : Nat → Nat} (a0 : Int32) (x : nz_S) (o : Int32 × nz_S) (hf : f_X5_leadersOf a0 x = some o) : nz_MI l yX5_leadersOf (nz_T yX5_leadersOf cX5_leadersOf 4 (some .int)) (nz_R 1 23) w q nz_tK [.ref (q 11), .int a0] x o := by
  refine nz_enterI (by decide) rfl (Nat.le_of_ble_eq_true rfl) rfl rfl ?_
  intro κ E hw hlq hR
  subst hw; subst hlq
  unfold f_X5_leadersOf at hf
  refine nz_weak (lv' := [(0, .ref (q 11)), (1, .int a0)]) ⟨rfl, rfl, trivial⟩ ?_
  refine nz_iconst (pc := 0) (v := 0) E dX5_leadersOf_0 (by decide) ?_
  refine nz_istore_n (pc := 1) (i := 2) E dX5_leadersOf_1 rfl (by decide) rfl ?_
  refine nz_iconst (pc := 2) (v := 0) E dX5_leadersOf_2 (by decide) ?_
  refine nz_istore_n (pc := 3) (i := 3) E dX5_leadersOf_3 rfl (by decide) rfl ?_
  refine nz_weak (lv' := [(0, .ref (q 11)), (1, .int _), (2, .int _), (3, .int _)]) ⟨rfl, rfl, rfl, rfl, trivial⟩ ?_
  refine w_X5_leadersOf_4 _ E hR _ _ _ _ _ hf (fun u10 u11 x9 hf => ?_)
  refine nz_iload_n (pc := 34) (i := 2) E dX5_leadersOf_34 rfl rfl ?_
  exact nz_iret (pc := 35) E hR rfl hf dX5_leadersOf_35
def f_J6_numberOfTrailingZeros_0f7a4 (a0 : Int32) (x : nz_S) : Option (Int32 × nz_S) :=
  let v1 : Int32 := ((a0 ^^^ (-1 : Int32)) &&& (a0 - (1 : Int32)))
  if (0 : Int32) < v1 then
    if v1 ≤ (65536 : Int32) then
      if v1 ≤ (256 : Int32) then
        if v1 ≤ (16 : Int32) then
          if v1 ≤ (4 : Int32) then
            some (((1 : Int32) + ((v1).toUInt32 >>> (((1 : Int32)).toUInt32 &&& Int32.toUInt32 31)).toInt32), x)
          else
            let v7 : Int32 := (1 : Int32) + 2
            let v8 : Int32 := ((v1).toUInt32 >>> (((2 : Int32)).toUInt32 &&& Int32.toUInt32 31)).toInt32
            some ((v7 + ((v8).toUInt32 >>> (((1 : Int32)).toUInt32 &&& Int32.toUInt32 31)).toInt32), x)
        else
          let v9 : Int32 := (1 : Int32) + 4
          let v10 : Int32 := ((v1).toUInt32 >>> (((4 : Int32)).toUInt32 &&& Int32.toUInt32 31)).toInt32
          if v10 ≤ (4 : Int32) then
            some ((v9 + ((v10).toUInt32 >>> (((1 : Int32)).toUInt32 &&& Int32.toUInt32 31)).toInt32), x)
          else
            let v12 : Int32 := v9 + 2
            let v13 : Int32 := ((v10).toUInt32 >>> (((2 : Int32)).toUInt32 &&& Int32.toUInt32 31)).toInt32
            some ((v12 + ((v13).toUInt32 >>> (((1 : Int32)).toUInt32 &&& Int32.toUInt32 31)).toInt32), x)
      else
        let v14 : Int32 := (1 : Int32) + 8
        let v15 : Int32 := ((v1).toUInt32 >>> (((8 : Int32)).toUInt32 &&& Int32.toUInt32 31)).toInt32
        if v15 ≤ (16 : Int32) then
          if v15 ≤ (4 : Int32) then
            some ((v14 + ((v15).toUInt32 >>> (((1 : Int32)).toUInt32 &&& Int32.toUInt32 31)).toInt32), x)
          else
            let v18 : Int32 := v14 + 2
            let v19 : Int32 := ((v15).toUInt32 >>> (((2 : Int32)).toUInt32 &&& Int32.toUInt32 31)).toInt32
            some ((v18 + ((v19).toUInt32 >>> (((1 : Int32)).toUInt32 &&& Int32.toUInt32 31)).toInt32), x)
        else
          let v20 : Int32 := v14 + 4
          let v21 : Int32 := ((v15).toUInt32 >>> (((4 : Int32)).toUInt32 &&& Int32.toUInt32 31)).toInt32
          if v21 ≤ (4 : Int32) then
            some ((v20 + ((v21).toUInt32 >>> (((1 : Int32)).toUInt32 &&& Int32.toUInt32 31)).toInt32), x)
          else
            let v23 : Int32 := v20 + 2
            let v24 : Int32 := ((v21).toUInt32 >>> (((2 : Int32)).toUInt32 &&& Int32.toUInt32 31)).toInt32
            some ((v23 + ((v24).toUInt32 >>> (((1 : Int32)).toUInt32 &&& Int32.toUInt32 31)).toInt32), x)
    else
      let v25 : Int32 := (1 : Int32) + 16
      let v26 : Int32 := ((v1).toUInt32 >>> (((16 : Int32)).toUInt32 &&& Int32.toUInt32 31)).toInt32
      if v26 ≤ (256 : Int32) then
        if v26 ≤ (16 : Int32) then
          if v26 ≤ (4 : Int32) then
            some ((v25 + ((v26).toUInt32 >>> (((1 : Int32)).toUInt32 &&& Int32.toUInt32 31)).toInt32), x)
          else
            let v30 : Int32 := v25 + 2
            let v31 : Int32 := ((v26).toUInt32 >>> (((2 : Int32)).toUInt32 &&& Int32.toUInt32 31)).toInt32
            some ((v30 + ((v31).toUInt32 >>> (((1 : Int32)).toUInt32 &&& Int32.toUInt32 31)).toInt32), x)
        else
          let v32 : Int32 := v25 + 4
          let v33 : Int32 := ((v26).toUInt32 >>> (((4 : Int32)).toUInt32 &&& Int32.toUInt32 31)).toInt32
          if v33 ≤ (4 : Int32) then
            some ((v32 + ((v33).toUInt32 >>> (((1 : Int32)).toUInt32 &&& Int32.toUInt32 31)).toInt32), x)
          else
            let v35 : Int32 := v32 + 2
            let v36 : Int32 := ((v33).toUInt32 >>> (((2 : Int32)).toUInt32 &&& Int32.toUInt32 31)).toInt32
            some ((v35 + ((v36).toUInt32 >>> (((1 : Int32)).toUInt32 &&& Int32.toUInt32 31)).toInt32), x)
      else
        let v37 : Int32 := v25 + 8
        let v38 : Int32 := ((v26).toUInt32 >>> (((8 : Int32)).toUInt32 &&& Int32.toUInt32 31)).toInt32
        if v38 ≤ (16 : Int32) then
          if v38 ≤ (4 : Int32) then
            some ((v37 + ((v38).toUInt32 >>> (((1 : Int32)).toUInt32 &&& Int32.toUInt32 31)).toInt32), x)
          else
            let v41 : Int32 := v37 + 2
            let v42 : Int32 := ((v38).toUInt32 >>> (((2 : Int32)).toUInt32 &&& Int32.toUInt32 31)).toInt32
            some ((v41 + ((v42).toUInt32 >>> (((1 : Int32)).toUInt32 &&& Int32.toUInt32 31)).toInt32), x)
        else
          let v43 : Int32 := v37 + 4
          let v44 : Int32 := ((v38).toUInt32 >>> (((4 : Int32)).toUInt32 &&& Int32.toUInt32 31)).toInt32
          if v44 ≤ (4 : Int32) then
            some ((v43 + ((v44).toUInt32 >>> (((1 : Int32)).toUInt32 &&& Int32.toUInt32 31)).toInt32), x)
          else
            let v46 : Int32 := v43 + 2
            let v47 : Int32 := ((v44).toUInt32 >>> (((2 : Int32)).toUInt32 &&& Int32.toUInt32 31)).toInt32
            some ((v46 + ((v47).toUInt32 >>> (((1 : Int32)).toUInt32 &&& Int32.toUInt32 31)).toInt32), x)
  else
    some ((v1 &&& (32 : Int32)), x)
theorem ds_J6_numberOfTrailingZeros_0f7a4 : nz_dsc yJ6_numberOfTrailingZeros_0f7a4 1 := by unfold nz_dsc; decide +kernel
set_option maxHeartbeats 4000000 in
set_option maxRecDepth 20000 in
theorem k_J6_numberOfTrailingZeros_0f7a4 {l : Launch} {w : nz_O} {q : Nat → Nat} (a0 : Int32) (x : nz_S) (o : Int32 × nz_S) (hf : f_J6_numberOfTrailingZeros_0f7a4 a0 x = some o) : nz_MI l yJ6_numberOfTrailingZeros_0f7a4 (nz_T yJ6_numberOfTrailingZeros_0f7a4 cJ6_numberOfTrailingZeros_0f7a4 2 (some .int)) (nz_R 0 0) w q nz_tK [.int a0] x o := by
  refine nz_enterI (by decide) rfl (Nat.le_of_ble_eq_true rfl) rfl rfl ?_
  intro κ E hw hlq hR
  subst hw; subst hlq
  unfold f_J6_numberOfTrailingZeros_0f7a4 at hf
  refine nz_weak (lv' := [(0, .int a0)]) ⟨rfl, trivial⟩ ?_
  refine nz_iload_n (pc := 0) (i := 0) E dJ6_numberOfTrailingZeros_0f7a4_0 rfl rfl ?_
  refine nz_iconst (pc := 1) (v := -1) E dJ6_numberOfTrailingZeros_0f7a4_1 (by decide) ?_
  refine nz_ixor (pc := 2) E dJ6_numberOfTrailingZeros_0f7a4_2 ?_
  refine nz_iload_n (pc := 3) (i := 0) E dJ6_numberOfTrailingZeros_0f7a4_3 rfl rfl ?_
  refine nz_iconst (pc := 4) (v := 1) E dJ6_numberOfTrailingZeros_0f7a4_4 (by decide) ?_
  refine nz_isub (pc := 5) E dJ6_numberOfTrailingZeros_0f7a4_5 ?_
  refine nz_iand (pc := 6) E dJ6_numberOfTrailingZeros_0f7a4_6 ?_
  refine nz_istore_n (pc := 7) (i := 0) E dJ6_numberOfTrailingZeros_0f7a4_7 rfl (by decide) rfl ?_
  refine nz_iload_n (pc := 8) (i := 0) E dJ6_numberOfTrailingZeros_0f7a4_8 rfl rfl ?_
  refine nz_if_gt (pc := 9) (tgt := 17) E dJ6_numberOfTrailingZeros_0f7a4_9 (by decide) (fun h2 => ?_) (fun h2 => ?_)
  · have hf := nz_ite_t hf h2
    refine nz_iconst (pc := 17) (v := 1) E dJ6_numberOfTrailingZeros_0f7a4_17 (by decide) ?_
    refine nz_istore_n (pc := 18) (i := 1) E dJ6_numberOfTrailingZeros_0f7a4_18 rfl (by decide) rfl ?_
    refine nz_iload_n (pc := 19) (i := 0) E dJ6_numberOfTrailingZeros_0f7a4_19 rfl rfl ?_
    refine nz_ldcw (pc := 20) E (List.mem_cons_of_mem _ nz_w384) dJ6_numberOfTrailingZeros_0f7a4_20 ?_
    refine nz_icmp_le (pc := 23) (tgt := 34) E dJ6_numberOfTrailingZeros_0f7a4_23 (by decide) (fun h3 => ?_) (fun h3 => ?_)
    · have hf := nz_ite_t hf h3
      refine nz_iload_n (pc := 34) (i := 0) E dJ6_numberOfTrailingZeros_0f7a4_34 rfl rfl ?_
      refine nz_sipush (pc := 35) (v := 256) E dJ6_numberOfTrailingZeros_0f7a4_35 (by decide) ?_
      refine nz_icmp_le (pc := 38) (tgt := 49) E dJ6_numberOfTrailingZeros_0f7a4_38 (by decide) (fun h4 => ?_) (fun h4 => ?_)
      · have hf := nz_ite_t hf h4
        refine nz_iload_n (pc := 49) (i := 0) E dJ6_numberOfTrailingZeros_0f7a4_49 rfl rfl ?_
        refine nz_bipush (pc := 50) (v := 16) E dJ6_numberOfTrailingZeros_0f7a4_50 (by decide) ?_
        refine nz_icmp_le (pc := 52) (tgt := 62) E dJ6_numberOfTrailingZeros_0f7a4_52 (by decide) (fun h5 => ?_) (fun h5 => ?_)
        · have hf := nz_ite_t hf h5
          refine nz_iload_n (pc := 62) (i := 0) E dJ6_numberOfTrailingZeros_0f7a4_62 rfl rfl ?_
          refine nz_iconst (pc := 63) (v := 4) E dJ6_numberOfTrailingZeros_0f7a4_63 (by decide) ?_
          refine nz_icmp_le (pc := 64) (tgt := 74) E dJ6_numberOfTrailingZeros_0f7a4_64 (by decide) (fun h6 => ?_) (fun h6 => ?_)
          · have hf := nz_ite_t hf h6
            refine nz_iload_n (pc := 74) (i := 1) E dJ6_numberOfTrailingZeros_0f7a4_74 rfl rfl ?_
            refine nz_iload_n (pc := 75) (i := 0) E dJ6_numberOfTrailingZeros_0f7a4_75 rfl rfl ?_
            refine nz_iconst (pc := 76) (v := 1) E dJ6_numberOfTrailingZeros_0f7a4_76 (by decide) ?_
            refine nz_iushr (pc := 77) E dJ6_numberOfTrailingZeros_0f7a4_77 ?_
            refine nz_iadd (pc := 78) E dJ6_numberOfTrailingZeros_0f7a4_78 ?_
            exact nz_iret (pc := 79) E hR rfl hf dJ6_numberOfTrailingZeros_0f7a4_79
          · have hf := nz_ite_f hf h6
            refine nz_iinc (pc := 67) (i := 1) (w := 2) E dJ6_numberOfTrailingZeros_0f7a4_67 rfl (by decide) (by decide) rfl ?_
            refine nz_iload_n (pc := 70) (i := 0) E dJ6_numberOfTrailingZeros_0f7a4_70 rfl rfl ?_
            refine nz_iconst (pc := 71) (v := 2) E dJ6_numberOfTrailingZeros_0f7a4_71 (by decide) ?_
            refine nz_iushr (pc := 72) E dJ6_numberOfTrailingZeros_0f7a4_72 ?_
            refine nz_istore_n (pc := 73) (i := 0) E dJ6_numberOfTrailingZeros_0f7a4_73 rfl (by decide) rfl ?_
            refine nz_iload_n (pc := 74) (i := 1) E dJ6_numberOfTrailingZeros_0f7a4_74 rfl rfl ?_
            refine nz_iload_n (pc := 75) (i := 0) E dJ6_numberOfTrailingZeros_0f7a4_75 rfl rfl ?_
            refine nz_iconst (pc := 76) (v := 1) E dJ6_numberOfTrailingZeros_0f7a4_76 (by decide) ?_
            refine nz_iushr (pc := 77) E dJ6_numberOfTrailingZeros_0f7a4_77 ?_
            refine nz_iadd (pc := 78) E dJ6_numberOfTrailingZeros_0f7a4_78 ?_
            exact nz_iret (pc := 79) E hR rfl hf dJ6_numberOfTrailingZeros_0f7a4_79
        · have hf := nz_ite_f hf h5
          refine nz_iinc (pc := 55) (i := 1) (w := 4) E dJ6_numberOfTrailingZeros_0f7a4_55 rfl (by decide) (by decide) rfl ?_
          refine nz_iload_n (pc := 58) (i := 0) E dJ6_numberOfTrailingZeros_0f7a4_58 rfl rfl ?_
          refine nz_iconst (pc := 59) (v := 4) E dJ6_numberOfTrailingZeros_0f7a4_59 (by decide) ?_
          refine nz_iushr (pc := 60) E dJ6_numberOfTrailingZeros_0f7a4_60 ?_
          refine nz_istore_n (pc := 61) (i := 0) E dJ6_numberOfTrailingZeros_0f7a4_61 rfl (by decide) rfl ?_
          refine nz_iload_n (pc := 62) (i := 0) E dJ6_numberOfTrailingZeros_0f7a4_62 rfl rfl ?_
          refine nz_iconst (pc := 63) (v := 4) E dJ6_numberOfTrailingZeros_0f7a4_63 (by decide) ?_
          refine nz_icmp_le (pc := 64) (tgt := 74) E dJ6_numberOfTrailingZeros_0f7a4_64 (by decide) (fun h11 => ?_) (fun h11 => ?_)
          · have hf := nz_ite_t hf h11
            refine nz_iload_n (pc := 74) (i := 1) E dJ6_numberOfTrailingZeros_0f7a4_74 rfl rfl ?_
            refine nz_iload_n (pc := 75) (i := 0) E dJ6_numberOfTrailingZeros_0f7a4_75 rfl rfl ?_
            refine nz_iconst (pc := 76) (v := 1) E dJ6_numberOfTrailingZeros_0f7a4_76 (by decide) ?_
            refine nz_iushr (pc := 77) E dJ6_numberOfTrailingZeros_0f7a4_77 ?_
            refine nz_iadd (pc := 78) E dJ6_numberOfTrailingZeros_0f7a4_78 ?_
            exact nz_iret (pc := 79) E hR rfl hf dJ6_numberOfTrailingZeros_0f7a4_79
          · have hf := nz_ite_f hf h11
            refine nz_iinc (pc := 67) (i := 1) (w := 2) E dJ6_numberOfTrailingZeros_0f7a4_67 rfl (by decide) (by decide) rfl ?_
            refine nz_iload_n (pc := 70) (i := 0) E dJ6_numberOfTrailingZeros_0f7a4_70 rfl rfl ?_
            refine nz_iconst (pc := 71) (v := 2) E dJ6_numberOfTrailingZeros_0f7a4_71 (by decide) ?_
            refine nz_iushr (pc := 72) E dJ6_numberOfTrailingZeros_0f7a4_72 ?_
            refine nz_istore_n (pc := 73) (i := 0) E dJ6_numberOfTrailingZeros_0f7a4_73 rfl (by decide) rfl ?_
            refine nz_iload_n (pc := 74) (i := 1) E dJ6_numberOfTrailingZeros_0f7a4_74 rfl rfl ?_
            refine nz_iload_n (pc := 75) (i := 0) E dJ6_numberOfTrailingZeros_0f7a4_75 rfl rfl ?_
            refine nz_iconst (pc := 76) (v := 1) E dJ6_numberOfTrailingZeros_0f7a4_76 (by decide) ?_
            refine nz_iushr (pc := 77) E dJ6_numberOfTrailingZeros_0f7a4_77 ?_
            refine nz_iadd (pc := 78) E dJ6_numberOfTrailingZeros_0f7a4_78 ?_
            exact nz_iret (pc := 79) E hR rfl hf dJ6_numberOfTrailingZeros_0f7a4_79
      · have hf := nz_ite_f hf h4
        refine nz_iinc (pc := 41) (i := 1) (w := 8) E dJ6_numberOfTrailingZeros_0f7a4_41 rfl (by decide) (by decide) rfl ?_
        refine nz_iload_n (pc := 44) (i := 0) E dJ6_numberOfTrailingZeros_0f7a4_44 rfl rfl ?_
        refine nz_bipush (pc := 45) (v := 8) E dJ6_numberOfTrailingZeros_0f7a4_45 (by decide) ?_
        refine nz_iushr (pc := 47) E dJ6_numberOfTrailingZeros_0f7a4_47 ?_
        refine nz_istore_n (pc := 48) (i := 0) E dJ6_numberOfTrailingZeros_0f7a4_48 rfl (by decide) rfl ?_
        refine nz_iload_n (pc := 49) (i := 0) E dJ6_numberOfTrailingZeros_0f7a4_49 rfl rfl ?_
        refine nz_bipush (pc := 50) (v := 16) E dJ6_numberOfTrailingZeros_0f7a4_50 (by decide) ?_
        refine nz_icmp_le (pc := 52) (tgt := 62) E dJ6_numberOfTrailingZeros_0f7a4_52 (by decide) (fun h16 => ?_) (fun h16 => ?_)
        · have hf := nz_ite_t hf h16
          refine nz_iload_n (pc := 62) (i := 0) E dJ6_numberOfTrailingZeros_0f7a4_62 rfl rfl ?_
          refine nz_iconst (pc := 63) (v := 4) E dJ6_numberOfTrailingZeros_0f7a4_63 (by decide) ?_
          refine nz_icmp_le (pc := 64) (tgt := 74) E dJ6_numberOfTrailingZeros_0f7a4_64 (by decide) (fun h17 => ?_) (fun h17 => ?_)
          · have hf := nz_ite_t hf h17
            refine nz_iload_n (pc := 74) (i := 1) E dJ6_numberOfTrailingZeros_0f7a4_74 rfl rfl ?_
            refine nz_iload_n (pc := 75) (i := 0) E dJ6_numberOfTrailingZeros_0f7a4_75 rfl rfl ?_
            refine nz_iconst (pc := 76) (v := 1) E dJ6_numberOfTrailingZeros_0f7a4_76 (by decide) ?_
            refine nz_iushr (pc := 77) E dJ6_numberOfTrailingZeros_0f7a4_77 ?_
            refine nz_iadd (pc := 78) E dJ6_numberOfTrailingZeros_0f7a4_78 ?_
            exact nz_iret (pc := 79) E hR rfl hf dJ6_numberOfTrailingZeros_0f7a4_79
          · have hf := nz_ite_f hf h17
            refine nz_iinc (pc := 67) (i := 1) (w := 2) E dJ6_numberOfTrailingZeros_0f7a4_67 rfl (by decide) (by decide) rfl ?_
            refine nz_iload_n (pc := 70) (i := 0) E dJ6_numberOfTrailingZeros_0f7a4_70 rfl rfl ?_
            refine nz_iconst (pc := 71) (v := 2) E dJ6_numberOfTrailingZeros_0f7a4_71 (by decide) ?_
            refine nz_iushr (pc := 72) E dJ6_numberOfTrailingZeros_0f7a4_72 ?_
            refine nz_istore_n (pc := 73) (i := 0) E dJ6_numberOfTrailingZeros_0f7a4_73 rfl (by decide) rfl ?_
            refine nz_iload_n (pc := 74) (i := 1) E dJ6_numberOfTrailingZeros_0f7a4_74 rfl rfl ?_
            refine nz_iload_n (pc := 75) (i := 0) E dJ6_numberOfTrailingZeros_0f7a4_75 rfl rfl ?_
            refine nz_iconst (pc := 76) (v := 1) E dJ6_numberOfTrailingZeros_0f7a4_76 (by decide) ?_
            refine nz_iushr (pc := 77) E dJ6_numberOfTrailingZeros_0f7a4_77 ?_
            refine nz_iadd (pc := 78) E dJ6_numberOfTrailingZeros_0f7a4_78 ?_
            exact nz_iret (pc := 79) E hR rfl hf dJ6_numberOfTrailingZeros_0f7a4_79
        · have hf := nz_ite_f hf h16
          refine nz_iinc (pc := 55) (i := 1) (w := 4) E dJ6_numberOfTrailingZeros_0f7a4_55 rfl (by decide) (by decide) rfl ?_
          refine nz_iload_n (pc := 58) (i := 0) E dJ6_numberOfTrailingZeros_0f7a4_58 rfl rfl ?_
          refine nz_iconst (pc := 59) (v := 4) E dJ6_numberOfTrailingZeros_0f7a4_59 (by decide) ?_
          refine nz_iushr (pc := 60) E dJ6_numberOfTrailingZeros_0f7a4_60 ?_
          refine nz_istore_n (pc := 61) (i := 0) E dJ6_numberOfTrailingZeros_0f7a4_61 rfl (by decide) rfl ?_
          refine nz_iload_n (pc := 62) (i := 0) E dJ6_numberOfTrailingZeros_0f7a4_62 rfl rfl ?_
          refine nz_iconst (pc := 63) (v := 4) E dJ6_numberOfTrailingZeros_0f7a4_63 (by decide) ?_
          refine nz_icmp_le (pc := 64) (tgt := 74) E dJ6_numberOfTrailingZeros_0f7a4_64 (by decide) (fun h22 => ?_) (fun h22 => ?_)
          · have hf := nz_ite_t hf h22
            refine nz_iload_n (pc := 74) (i := 1) E dJ6_numberOfTrailingZeros_0f7a4_74 rfl rfl ?_
            refine nz_iload_n (pc := 75) (i := 0) E dJ6_numberOfTrailingZeros_0f7a4_75 rfl rfl ?_
            refine nz_iconst (pc := 76) (v := 1) E dJ6_numberOfTrailingZeros_0f7a4_76 (by decide) ?_
            refine nz_iushr (pc := 77) E dJ6_numberOfTrailingZeros_0f7a4_77 ?_
            refine nz_iadd (pc := 78) E dJ6_numberOfTrailingZeros_0f7a4_78 ?_
            exact nz_iret (pc := 79) E hR rfl hf dJ6_numberOfTrailingZeros_0f7a4_79
          · have hf := nz_ite_f hf h22
            refine nz_iinc (pc := 67) (i := 1) (w := 2) E dJ6_numberOfTrailingZeros_0f7a4_67 rfl (by decide) (by decide) rfl ?_
            refine nz_iload_n (pc := 70) (i := 0) E dJ6_numberOfTrailingZeros_0f7a4_70 rfl rfl ?_
            refine nz_iconst (pc := 71) (v := 2) E dJ6_numberOfTrailingZeros_0f7a4_71 (by decide) ?_
            refine nz_iushr (pc := 72) E dJ6_numberOfTrailingZeros_0f7a4_72 ?_
            refine nz_istore_n (pc := 73) (i := 0) E dJ6_numberOfTrailingZeros_0f7a4_73 rfl (by decide) rfl ?_
            refine nz_iload_n (pc := 74) (i := 1) E dJ6_numberOfTrailingZeros_0f7a4_74 rfl rfl ?_
            refine nz_iload_n (pc := 75) (i := 0) E dJ6_numberOfTrailingZeros_0f7a4_75 rfl rfl ?_
            refine nz_iconst (pc := 76) (v := 1) E dJ6_numberOfTrailingZeros_0f7a4_76 (by decide) ?_
            refine nz_iushr (pc := 77) E dJ6_numberOfTrailingZeros_0f7a4_77 ?_
            refine nz_iadd (pc := 78) E dJ6_numberOfTrailingZeros_0f7a4_78 ?_
            exact nz_iret (pc := 79) E hR rfl hf dJ6_numberOfTrailingZeros_0f7a4_79
    · have hf := nz_ite_f hf h3
      refine nz_iinc (pc := 26) (i := 1) (w := 16) E dJ6_numberOfTrailingZeros_0f7a4_26 rfl (by decide) (by decide) rfl ?_
      refine nz_iload_n (pc := 29) (i := 0) E dJ6_numberOfTrailingZeros_0f7a4_29 rfl rfl ?_
      refine nz_bipush (pc := 30) (v := 16) E dJ6_numberOfTrailingZeros_0f7a4_30 (by decide) ?_
      refine nz_iushr (pc := 32) E dJ6_numberOfTrailingZeros_0f7a4_32 ?_
      refine nz_istore_n (pc := 33) (i := 0) E dJ6_numberOfTrailingZeros_0f7a4_33 rfl (by decide) rfl ?_
      refine nz_iload_n (pc := 34) (i := 0) E dJ6_numberOfTrailingZeros_0f7a4_34 rfl rfl ?_
      refine nz_sipush (pc := 35) (v := 256) E dJ6_numberOfTrailingZeros_0f7a4_35 (by decide) ?_
      refine nz_icmp_le (pc := 38) (tgt := 49) E dJ6_numberOfTrailingZeros_0f7a4_38 (by decide) (fun h27 => ?_) (fun h27 => ?_)
      · have hf := nz_ite_t hf h27
        refine nz_iload_n (pc := 49) (i := 0) E dJ6_numberOfTrailingZeros_0f7a4_49 rfl rfl ?_
        refine nz_bipush (pc := 50) (v := 16) E dJ6_numberOfTrailingZeros_0f7a4_50 (by decide) ?_
        refine nz_icmp_le (pc := 52) (tgt := 62) E dJ6_numberOfTrailingZeros_0f7a4_52 (by decide) (fun h28 => ?_) (fun h28 => ?_)
        · have hf := nz_ite_t hf h28
          refine nz_iload_n (pc := 62) (i := 0) E dJ6_numberOfTrailingZeros_0f7a4_62 rfl rfl ?_
          refine nz_iconst (pc := 63) (v := 4) E dJ6_numberOfTrailingZeros_0f7a4_63 (by decide) ?_
          refine nz_icmp_le (pc := 64) (tgt := 74) E dJ6_numberOfTrailingZeros_0f7a4_64 (by decide) (fun h29 => ?_) (fun h29 => ?_)
          · have hf := nz_ite_t hf h29
            refine nz_iload_n (pc := 74) (i := 1) E dJ6_numberOfTrailingZeros_0f7a4_74 rfl rfl ?_
            refine nz_iload_n (pc := 75) (i := 0) E dJ6_numberOfTrailingZeros_0f7a4_75 rfl rfl ?_
            refine nz_iconst (pc := 76) (v := 1) E dJ6_numberOfTrailingZeros_0f7a4_76 (by decide) ?_
            refine nz_iushr (pc := 77) E dJ6_numberOfTrailingZeros_0f7a4_77 ?_
            refine nz_iadd (pc := 78) E dJ6_numberOfTrailingZeros_0f7a4_78 ?_
            exact nz_iret (pc := 79) E hR rfl hf dJ6_numberOfTrailingZeros_0f7a4_79
          · have hf := nz_ite_f hf h29
            refine nz_iinc (pc := 67) (i := 1) (w := 2) E dJ6_numberOfTrailingZeros_0f7a4_67 rfl (by decide) (by decide) rfl ?_
            refine nz_iload_n (pc := 70) (i := 0) E dJ6_numberOfTrailingZeros_0f7a4_70 rfl rfl ?_
            refine nz_iconst (pc := 71) (v := 2) E dJ6_numberOfTrailingZeros_0f7a4_71 (by decide) ?_
            refine nz_iushr (pc := 72) E dJ6_numberOfTrailingZeros_0f7a4_72 ?_
            refine nz_istore_n (pc := 73) (i := 0) E dJ6_numberOfTrailingZeros_0f7a4_73 rfl (by decide) rfl ?_
            refine nz_iload_n (pc := 74) (i := 1) E dJ6_numberOfTrailingZeros_0f7a4_74 rfl rfl ?_
            refine nz_iload_n (pc := 75) (i := 0) E dJ6_numberOfTrailingZeros_0f7a4_75 rfl rfl ?_
            refine nz_iconst (pc := 76) (v := 1) E dJ6_numberOfTrailingZeros_0f7a4_76 (by decide) ?_
            refine nz_iushr (pc := 77) E dJ6_numberOfTrailingZeros_0f7a4_77 ?_
            refine nz_iadd (pc := 78) E dJ6_numberOfTrailingZeros_0f7a4_78 ?_
            exact nz_iret (pc := 79) E hR rfl hf dJ6_numberOfTrailingZeros_0f7a4_79
        · have hf := nz_ite_f hf h28
          refine nz_iinc (pc := 55) (i := 1) (w := 4) E dJ6_numberOfTrailingZeros_0f7a4_55 rfl (by decide) (by decide) rfl ?_
          refine nz_iload_n (pc := 58) (i := 0) E dJ6_numberOfTrailingZeros_0f7a4_58 rfl rfl ?_
          refine nz_iconst (pc := 59) (v := 4) E dJ6_numberOfTrailingZeros_0f7a4_59 (by decide) ?_
          refine nz_iushr (pc := 60) E dJ6_numberOfTrailingZeros_0f7a4_60 ?_
          refine nz_istore_n (pc := 61) (i := 0) E dJ6_numberOfTrailingZeros_0f7a4_61 rfl (by decide) rfl ?_
          refine nz_iload_n (pc := 62) (i := 0) E dJ6_numberOfTrailingZeros_0f7a4_62 rfl rfl ?_
          refine nz_iconst (pc := 63) (v := 4) E dJ6_numberOfTrailingZeros_0f7a4_63 (by decide) ?_
          refine nz_icmp_le (pc := 64) (tgt := 74) E dJ6_numberOfTrailingZeros_0f7a4_64 (by decide) (fun h34 => ?_) (fun h34 => ?_)
          · have hf := nz_ite_t hf h34
            refine nz_iload_n (pc := 74) (i := 1) E dJ6_numberOfTrailingZeros_0f7a4_74 rfl rfl ?_
            refine nz_iload_n (pc := 75) (i := 0) E dJ6_numberOfTrailingZeros_0f7a4_75 rfl rfl ?_
            refine nz_iconst (pc := 76) (v := 1) E dJ6_numberOfTrailingZeros_0f7a4_76 (by decide) ?_
            refine nz_iushr (pc := 77) E dJ6_numberOfTrailingZeros_0f7a4_77 ?_
            refine nz_iadd (pc := 78) E dJ6_numberOfTrailingZeros_0f7a4_78 ?_
            exact nz_iret (pc := 79) E hR rfl hf dJ6_numberOfTrailingZeros_0f7a4_79
          · have hf := nz_ite_f hf h34
            refine nz_iinc (pc := 67) (i := 1) (w := 2) E dJ6_numberOfTrailingZeros_0f7a4_67 rfl (by decide) (by decide) rfl ?_
            refine nz_iload_n (pc := 70) (i := 0) E dJ6_numberOfTrailingZeros_0f7a4_70 rfl rfl ?_
            refine nz_iconst (pc := 71) (v := 2) E dJ6_numberOfTrailingZeros_0f7a4_71 (by decide) ?_
            refine nz_iushr (pc := 72) E dJ6_numberOfTrailingZeros_0f7a4_72 ?_
            refine nz_istore_n (pc := 73) (i := 0) E dJ6_numberOfTrailingZeros_0f7a4_73 rfl (by decide) rfl ?_
            refine nz_iload_n (pc := 74) (i := 1) E dJ6_numberOfTrailingZeros_0f7a4_74 rfl rfl ?_
            refine nz_iload_n (pc := 75) (i := 0) E dJ6_numberOfTrailingZeros_0f7a4_75 rfl rfl ?_
            refine nz_iconst (pc := 76) (v := 1) E dJ6_numberOfTrailingZeros_0f7a4_76 (by decide) ?_
            refine nz_iushr (pc := 77) E dJ6_numberOfTrailingZeros_0f7a4_77 ?_
            refine nz_iadd (pc := 78) E dJ6_numberOfTrailingZeros_0f7a4_78 ?_
            exact nz_iret (pc := 79) E hR rfl hf dJ6_numberOfTrailingZeros_0f7a4_79
      · have hf := nz_ite_f hf h27
        refine nz_iinc (pc := 41) (i := 1) (w := 8) E dJ6_numberOfTrailingZeros_0f7a4_41 rfl (by decide) (by decide) rfl ?_
        refine nz_iload_n (pc := 44) (i := 0) E dJ6_numberOfTrailingZeros_0f7a4_44 rfl rfl ?_
        refine nz_bipush (pc := 45) (v := 8) E dJ6_numberOfTrailingZeros_0f7a4_45 (by decide) ?_
        refine nz_iushr (pc := 47) E dJ6_numberOfTrailingZeros_0f7a4_47 ?_
        refine nz_istore_n (pc := 48) (i := 0) E dJ6_numberOfTrailingZeros_0f7a4_48 rfl (by decide) rfl ?_
        refine nz_iload_n (pc := 49) (i := 0) E dJ6_numberOfTrailingZeros_0f7a4_49 rfl rfl ?_
        refine nz_bipush (pc := 50) (v := 16) E dJ6_numberOfTrailingZeros_0f7a4_50 (by decide) ?_
        refine nz_icmp_le (pc := 52) (tgt := 62) E dJ6_numberOfTrailingZeros_0f7a4_52 (by decide) (fun h39 => ?_) (fun h39 => ?_)
        · have hf := nz_ite_t hf h39
          refine nz_iload_n (pc := 62) (i := 0) E dJ6_numberOfTrailingZeros_0f7a4_62 rfl rfl ?_
          refine nz_iconst (pc := 63) (v := 4) E dJ6_numberOfTrailingZeros_0f7a4_63 (by decide) ?_
          refine nz_icmp_le (pc := 64) (tgt := 74) E dJ6_numberOfTrailingZeros_0f7a4_64 (by decide) (fun h40 => ?_) (fun h40 => ?_)
          · have hf := nz_ite_t hf h40
            refine nz_iload_n (pc := 74) (i := 1) E dJ6_numberOfTrailingZeros_0f7a4_74 rfl rfl ?_
            refine nz_iload_n (pc := 75) (i := 0) E dJ6_numberOfTrailingZeros_0f7a4_75 rfl rfl ?_
            refine nz_iconst (pc := 76) (v := 1) E dJ6_numberOfTrailingZeros_0f7a4_76 (by decide) ?_
            refine nz_iushr (pc := 77) E dJ6_numberOfTrailingZeros_0f7a4_77 ?_
            refine nz_iadd (pc := 78) E dJ6_numberOfTrailingZeros_0f7a4_78 ?_
            exact nz_iret (pc := 79) E hR rfl hf dJ6_numberOfTrailingZeros_0f7a4_79
          · have hf := nz_ite_f hf h40
            refine nz_iinc (pc := 67) (i := 1) (w := 2) E dJ6_numberOfTrailingZeros_0f7a4_67 rfl (by decide) (by decide) rfl ?_
            refine nz_iload_n (pc := 70) (i := 0) E dJ6_numberOfTrailingZeros_0f7a4_70 rfl rfl ?_
            refine nz_iconst (pc := 71) (v := 2) E dJ6_numberOfTrailingZeros_0f7a4_71 (by decide) ?_
            refine nz_iushr (pc := 72) E dJ6_numberOfTrailingZeros_0f7a4_72 ?_
            refine nz_istore_n (pc := 73) (i := 0) E dJ6_numberOfTrailingZeros_0f7a4_73 rfl (by decide) rfl ?_
            refine nz_iload_n (pc := 74) (i := 1) E dJ6_numberOfTrailingZeros_0f7a4_74 rfl rfl ?_
            refine nz_iload_n (pc := 75) (i := 0) E dJ6_numberOfTrailingZeros_0f7a4_75 rfl rfl ?_
            refine nz_iconst (pc := 76) (v := 1) E dJ6_numberOfTrailingZeros_0f7a4_76 (by decide) ?_
            refine nz_iushr (pc := 77) E dJ6_numberOfTrailingZeros_0f7a4_77 ?_
            refine nz_iadd (pc := 78) E dJ6_numberOfTrailingZeros_0f7a4_78 ?_
            exact nz_iret (pc := 79) E hR rfl hf dJ6_numberOfTrailingZeros_0f7a4_79
        · have hf := nz_ite_f hf h39
          refine nz_iinc (pc := 55) (i := 1) (w := 4) E dJ6_numberOfTrailingZeros_0f7a4_55 rfl (by decide) (by decide) rfl ?_
          refine nz_iload_n (pc := 58) (i := 0) E dJ6_numberOfTrailingZeros_0f7a4_58 rfl rfl ?_
          refine nz_iconst (pc := 59) (v := 4) E dJ6_numberOfTrailingZeros_0f7a4_59 (by decide) ?_
          refine nz_iushr (pc := 60) E dJ6_numberOfTrailingZeros_0f7a4_60 ?_
          refine nz_istore_n (pc := 61) (i := 0) E dJ6_numberOfTrailingZeros_0f7a4_61 rfl (by decide) rfl ?_
          refine nz_iload_n (pc := 62) (i := 0) E dJ6_numberOfTrailingZeros_0f7a4_62 rfl rfl ?_
          refine nz_iconst (pc := 63) (v := 4) E dJ6_numberOfTrailingZeros_0f7a4_63 (by decide) ?_
          refine nz_icmp_le (pc := 64) (tgt := 74) E dJ6_numberOfTrailingZeros_0f7a4_64 (by decide) (fun h45 => ?_) (fun h45 => ?_)
          · have hf := nz_ite_t hf h45
            refine nz_iload_n (pc := 74) (i := 1) E dJ6_numberOfTrailingZeros_0f7a4_74 rfl rfl ?_
            refine nz_iload_n (pc := 75) (i := 0) E dJ6_numberOfTrailingZeros_0f7a4_75 rfl rfl ?_
            refine nz_iconst (pc := 76) (v := 1) E dJ6_numberOfTrailingZeros_0f7a4_76 (by decide) ?_
            refine nz_iushr (pc := 77) E dJ6_numberOfTrailingZeros_0f7a4_77 ?_
            refine nz_iadd (pc := 78) E dJ6_numberOfTrailingZeros_0f7a4_78 ?_
            exact nz_iret (pc := 79) E hR rfl hf dJ6_numberOfTrailingZeros_0f7a4_79
          · have hf := nz_ite_f hf h45
            refine nz_iinc (pc := 67) (i := 1) (w := 2) E dJ6_numberOfTrailingZeros_0f7a4_67 rfl (by decide) (by decide) rfl ?_
            refine nz_iload_n (pc := 70) (i := 0) E dJ6_numberOfTrailingZeros_0f7a4_70 rfl rfl ?_
            refine nz_iconst (pc := 71) (v := 2) E dJ6_numberOfTrailingZeros_0f7a4_71 (by decide) ?_
            refine nz_iushr (pc := 72) E dJ6_numberOfTrailingZeros_0f7a4_72 ?_
            refine nz_istore_n (pc := 73) (i := 0) E dJ6_numberOfTrailingZeros_0f7a4_73 rfl (by decide) rfl ?_
            refine nz_iload_n (pc := 74) (i := 1) E dJ6_numberOfTrailingZeros_0f7a4_74 rfl rfl ?_
            refine nz_iload_n (pc := 75) (i := 0) E dJ6_numberOfTrailingZeros_0f7a4_75 rfl rfl ?_
            refine nz_iconst (pc := 76) (v := 1) E dJ6_numberOfTrailingZeros_0f7a4_76 (by decide) ?_
            refine nz_iushr (pc := 77) E dJ6_numberOfTrailingZeros_0f7a4_77 ?_
            refine nz_iadd (pc := 78) E dJ6_numberOfTrailingZeros_0f7a4_78 ?_
            exact nz_iret (pc := 79) E hR rfl hf dJ6_numberOfTrailingZeros_0f7a4_79
  · have hf := nz_ite_f hf h2
    refine nz_iload_n (pc := 12) (i := 0) E dJ6_numberOfTrailingZeros_0f7a4_12 rfl rfl ?_
    refine nz_bipush (pc := 13) (v := 32) E dJ6_numberOfTrailingZeros_0f7a4_13 (by decide) ?_
    refine nz_iand (pc := 15) E dJ6_numberOfTrailingZeros_0f7a4_15 ?_
    exact nz_iret (pc := 16) E hR rfl hf dJ6_numberOfTrailingZeros_0f7a4_16
def f_X5_gather_47 (c1 : Int32) : Nat → Int32 → Int32 → Int32 → nz_S → (Int32 → Int32 → Int32 → nz_S → Option (Unit × nz_S)) → Option (Unit × nz_S)
  | 0, _, _, _, _, _ => none
  | fu + 1, w2, w3, w4, x, K =>
  if (12 : Int32) ≤ w4 then
    K w2 w3 w4 x
  else
    if (w2 &&& (w3 ^^^ (-1 : Int32))) = (0 : Int32) then
      K w2 w3 w4 x
    else
      nz_bnd (f_J6_numberOfTrailingZeros_0f7a4  (w2 &&& (w3 ^^^ (-1 : Int32))) x) fun r13 x14 =>
      let v16 : Int32 := (w3 ||| ((1 : Int32) <<< (r13 &&& 31)))
      nz_chk (nz_in r13 12) <|
      nz_bnd (f_X5_leadersOf  (x14.1 17 (r13).toNatClampNeg) x14) fun r18 x19 =>
      nz_chk (nz_in c1 12) <|
      let v22 : Int32 := (w2 ||| ((r18 &&& (x19.1 14 (c1).toNatClampNeg)) &&& (((1 : Int32) <<< (c1 &&& 31)) ^^^ (-1 : Int32))))
      nz_chk (nz_in c1 12) <|
      let v24 : Int32 := (r18 &&& ((x19.1 14 (c1).toNatClampNeg) ^^^ (-1 : Int32)))
      if v24 = (0 : Int32) then
        let v26 : Int32 := w4 + 1
        f_X5_gather_47 c1 fu v22 v16 v26 x19 K
      else
        nz_chk (nz_in c1 12) <|
        nz_chk (nz_in c1 12) <|
        let x29 : nz_S := nz_put x19 17 (c1).toNatClampNeg ((x19.1 17 (c1).toNatClampNeg) ||| v24)
        nz_chk (nz_in c1 12) <|
        let x31 : nz_S := nz_put x29 19 (c1).toNatClampNeg (3 : Int32)
        let v32 : Int32 := w4 + 1
        f_X5_gather_47 c1 fu v22 v16 v32 x31 K
def f_X5_gather_155 (c1 : Int32) (c2 : Int32) : Nat → Int32 → nz_S → (Int32 → nz_S → Option (Unit × nz_S)) → Option (Unit × nz_S)
  | 0, _, _, _ => none
  | fu + 1, w4, x, K =>
  if (12 : Int32) ≤ w4 then
    K w4 x
  else
    if ((c2 >>> (w4 &&& 31)) &&& (1 : Int32)) = (0 : Int32) then
      let v39 : Int32 := w4 + 1
      f_X5_gather_155 c1 c2 fu v39 x K
    else
      nz_chk (nz_in w4 12) <|
      let x41 : nz_S := nz_put x 18 (w4).toNatClampNeg c1
      let v42 : Int32 := w4 + 1
      f_X5_gather_155 c1 c2 fu v42 x41 K
def f_X5_gather (a0 : Int32) (x : nz_S) : Option (Unit × nz_S) :=
  nz_chk (nz_in a0 12) <|
  if (x.1 16 (a0).toNatClampNeg) = (0 : Int32) then
    some ((), x)
  else
    nz_chk (nz_in a0 12) <|
    nz_bnd (f_X5_leadersOf  (x.1 16 (a0).toNatClampNeg) x) fun r4 x5 =>
    let v7 : Int32 := (r4 &&& (((1 : Int32) <<< (a0 &&& 31)) ^^^ (-1 : Int32)))
    if v7 = (0 : Int32) then
      nz_chk (nz_in a0 12) <|
      let x46 : nz_S := nz_put x5 19 (a0).toNatClampNeg (1 : Int32)
      f_X5_gather_47 a0 nz_F v7 (0 : Int32) (0 : Int32) x46 fun u48 u49 u50 x47 =>
        f_X5_gather_155 a0 u48 nz_F (0 : Int32) x47 fun u52 x51 =>
          some ((), x51)
    else
      nz_chk (nz_in a0 12) <|
      let x10 : nz_S := nz_put x5 19 (a0).toNatClampNeg (2 : Int32)
      f_X5_gather_47 a0 nz_F v7 (0 : Int32) (0 : Int32) x10 fun u34 u35 u36 x33 =>
        f_X5_gather_155 a0 u34 nz_F (0 : Int32) x33 fun u44 x43 =>
          some ((), x43)
theorem ds_X5_gather : nz_dsc yX5_gather 1 := by unfold nz_dsc; decide +kernel
set_option maxHeartbeats 4000000 in
set_option maxRecDepth 20000 in
theorem w_X5_gather_47 {κ : nz_C} {q : Nat → Nat} {o : Unit × nz_S} (c1 : Int32) (E : nz_Env κ q nz_tK 8 cX5_gather RX5 (nz_T yX5_gather cX5_gather 8 (none)) (nz_R 2 46)) (hR : nz_RV κ q nz_tK o) : ∀ (fu : Nat) (w2 : Int32) (w3 : Int32) (w4 : Int32) (x : nz_S) (K : Int32 → Int32 → Int32 → nz_S → Option (Unit × nz_S)), f_X5_gather_47 c1 fu w2 w3 w4 x K = some o → (∀ (w2 : Int32) (w3 : Int32) (w4 : Int32) (x : nz_S), K w2 w3 w4 x = some o → nz_St κ q nz_tK 8 152 [(0, .ref (q 11)), (1, .int c1), (2, .int w2), (3, .int w3), (4, .int w4)] [] x) → nz_St κ q nz_tK 8 47 [(0, .ref (q 11)), (1, .int c1), (2, .int w2), (3, .int w3), (4, .int w4)] [] x := by
  intro fu
  induction fu with
  | zero => intro w2 w3 w4 x K hf; rw [f_X5_gather_47] at hf; cases hf
  | succ fu ih =>
    intro w2 w3 w4 x K hf hK
    rw [f_X5_gather_47] at hf
    refine nz_iload (pc := 47) (i := 4) E dX5_gather_47 rfl ?_
    refine nz_bipush (pc := 49) (v := 12) E dX5_gather_49 (by decide) ?_
    refine nz_icmp_ge (pc := 51) (tgt := 152) E dX5_gather_51 (by decide) (fun h11 => ?_) (fun h11 => ?_)
    · have hf := nz_ite_t hf h11
      refine nz_weak (lv' := [(0, .ref (q 11)), (1, .int _), (2, .int _), (3, .int _), (4, .int _)]) ⟨rfl, rfl, rfl, rfl, rfl, trivial⟩ ?_
      exact hK _ _ _ _ hf
    · have hf := nz_ite_f hf h11
      refine nz_iload_n (pc := 54) (i := 2) E dX5_gather_54 rfl rfl ?_
      refine nz_iload_n (pc := 55) (i := 3) E dX5_gather_55 rfl rfl ?_
      refine nz_iconst (pc := 56) (v := -1) E dX5_gather_56 (by decide) ?_
      refine nz_ixor (pc := 57) E dX5_gather_57 ?_
      refine nz_iand (pc := 58) E dX5_gather_58 ?_
      refine nz_if_eq (pc := 59) (tgt := 152) E dX5_gather_59 (by decide) (fun h12 => ?_) (fun h12 => ?_)
      · have hf := nz_ite_t hf h12
        refine nz_weak (lv' := [(0, .ref (q 11)), (1, .int _), (2, .int _), (3, .int _), (4, .int _)]) ⟨rfl, rfl, rfl, rfl, rfl, trivial⟩ ?_
        exact hK _ _ _ _ hf
      · have hf := nz_ite_f hf h12
        refine nz_iload_n (pc := 62) (i := 2) E dX5_gather_62 rfl rfl ?_
        refine nz_iload_n (pc := 63) (i := 3) E dX5_gather_63 rfl rfl ?_
        refine nz_iconst (pc := 64) (v := -1) E dX5_gather_64 (by decide) ?_
        refine nz_ixor (pc := 65) E dX5_gather_65 ?_
        refine nz_iand (pc := 66) E dX5_gather_66 ?_
        obtain ⟨r13, x14, h15, hf⟩ := nz_bnd_t hf
        refine nz_callSI (pc := 67) (As := [.int _]) E (k_J6_numberOfTrailingZeros_0f7a4   _ _ _ h15) (nz_cwS E nz_w381 nz_w382 nz_w70 nz_w383 ds_J6_numberOfTrailingZeros_0f7a4 ⟨Nat.le_of_ble_eq_true rfl, Nat.le_of_ble_eq_true rfl⟩ rfl rfl) rfl rfl (Nat.le_of_ble_eq_true rfl) dX5_gather_67 ?_
        refine nz_istore (pc := 70) (i := 5) E dX5_gather_70 (by decide) rfl ?_
        refine nz_iload_n (pc := 72) (i := 3) E dX5_gather_72 rfl rfl ?_
        refine nz_iconst (pc := 73) (v := 1) E dX5_gather_73 (by decide) ?_
        refine nz_iload (pc := 74) (i := 5) E dX5_gather_74 rfl ?_
        refine nz_ishl (pc := 76) E dX5_gather_76 ?_
        refine nz_ior (pc := 77) E dX5_gather_77 ?_
        refine nz_istore_n (pc := 78) (i := 3) E dX5_gather_78 rfl (by decide) rfl ?_
        refine nz_aload_n (pc := 79) (i := 0) E dX5_gather_79 rfl rfl ?_
        refine nz_aload_n (pc := 80) (i := 0) E dX5_gather_80 rfl rfl ?_
        refine nz_getR (pc := 81) (c := 11) (kf := 5) E rfl rfl (nz_upT nz_uX5) (by decide) (List.mem_cons_of_mem _ nz_w137) rfl rfl dX5_gather_81 ?_
        refine nz_iload (pc := 84) (i := 5) E dX5_gather_84 rfl ?_
        obtain ⟨h17, hf⟩ := nz_chk_t hf
        refine nz_iald (pc := 86) (c := 17) E rfl h17 dX5_gather_86 ?_
        obtain ⟨r18, x19, h20, hf⟩ := nz_bnd_t hf
        refine nz_callVI (pc := 87) (c0 := 11) (As := [.int _]) E rfl rfl (k_X5_leadersOf   _ _ _ h20) (nz_cwV E nz_w373 nz_w375 nz_w5 nz_w61 nz_w376 ds_X5_leadersOf ⟨Nat.le_of_ble_eq_true rfl, Nat.le_of_ble_eq_true rfl⟩ rfl rfl) rfl rfl (Nat.le_of_ble_eq_true rfl) dX5_gather_87 ?_
        refine nz_istore (pc := 90) (i := 6) E dX5_gather_90 (by decide) rfl ?_
        refine nz_iload_n (pc := 92) (i := 2) E dX5_gather_92 rfl rfl ?_
        refine nz_iload (pc := 93) (i := 6) E dX5_gather_93 rfl ?_
        refine nz_aload_n (pc := 95) (i := 0) E dX5_gather_95 rfl rfl ?_
        refine nz_getR (pc := 96) (c := 11) (kf := 2) E rfl rfl (nz_upT nz_uX5) (by decide) (List.mem_cons_of_mem _ nz_w132) rfl rfl dX5_gather_96 ?_
        refine nz_iload_n (pc := 99) (i := 1) E dX5_gather_99 rfl rfl ?_
        obtain ⟨h21, hf⟩ := nz_chk_t hf
        refine nz_iald (pc := 100) (c := 14) E rfl h21 dX5_gather_100 ?_
        refine nz_iand (pc := 101) E dX5_gather_101 ?_
        refine nz_iconst (pc := 102) (v := 1) E dX5_gather_102 (by decide) ?_
        refine nz_iload_n (pc := 103) (i := 1) E dX5_gather_103 rfl rfl ?_
        refine nz_ishl (pc := 104) E dX5_gather_104 ?_
        refine nz_iconst (pc := 105) (v := -1) E dX5_gather_105 (by decide) ?_
        refine nz_ixor (pc := 106) E dX5_gather_106 ?_
        refine nz_iand (pc := 107) E dX5_gather_107 ?_
        refine nz_ior (pc := 108) E dX5_gather_108 ?_
        refine nz_istore_n (pc := 109) (i := 2) E dX5_gather_109 rfl (by decide) rfl ?_
        refine nz_iload (pc := 110) (i := 6) E dX5_gather_110 rfl ?_
        refine nz_aload_n (pc := 112) (i := 0) E dX5_gather_112 rfl rfl ?_
        refine nz_getR (pc := 113) (c := 11) (kf := 2) E rfl rfl (nz_upT nz_uX5) (by decide) (List.mem_cons_of_mem _ nz_w132) rfl rfl dX5_gather_113 ?_
        refine nz_iload_n (pc := 116) (i := 1) E dX5_gather_116 rfl rfl ?_
        obtain ⟨h23, hf⟩ := nz_chk_t hf
        refine nz_iald (pc := 117) (c := 14) E rfl h23 dX5_gather_117 ?_
        refine nz_iconst (pc := 118) (v := -1) E dX5_gather_118 (by decide) ?_
        refine nz_ixor (pc := 119) E dX5_gather_119 ?_
        refine nz_iand (pc := 120) E dX5_gather_120 ?_
        refine nz_istore (pc := 121) (i := 7) E dX5_gather_121 (by decide) rfl ?_
        refine nz_iload (pc := 123) (i := 7) E dX5_gather_123 rfl ?_
        refine nz_if_eq (pc := 125) (tgt := 146) E dX5_gather_125 (by decide) (fun h25 => ?_) (fun h25 => ?_)
        · have hf := nz_ite_t hf h25
          refine nz_iinc (pc := 146) (i := 4) (w := 1) E dX5_gather_146 rfl (by decide) (by decide) rfl ?_
          refine nz_goto (pc := 149) (tgt := 47) E dX5_gather_149 (by decide) ?_
          refine nz_weak (lv' := [(0, .ref (q 11)), (1, .int _), (2, .int _), (3, .int _), (4, .int _)]) ⟨rfl, rfl, rfl, rfl, rfl, trivial⟩ ?_
          exact ih _ _ _ _ _ hf hK
        · have hf := nz_ite_f hf h25
          refine nz_aload_n (pc := 128) (i := 0) E dX5_gather_128 rfl rfl ?_
          refine nz_getR (pc := 129) (c := 11) (kf := 5) E rfl rfl (nz_upT nz_uX5) (by decide) (List.mem_cons_of_mem _ nz_w137) rfl rfl dX5_gather_129 ?_
          refine nz_iload_n (pc := 132) (i := 1) E dX5_gather_132 rfl rfl ?_
          refine nz_dup2 (pc := 133) E dX5_gather_133 rfl rfl ?_
          obtain ⟨h27, hf⟩ := nz_chk_t hf
          refine nz_iald (pc := 134) (c := 17) E rfl h27 dX5_gather_134 ?_
          refine nz_iload (pc := 135) (i := 7) E dX5_gather_135 rfl ?_
          refine nz_ior (pc := 137) E dX5_gather_137 ?_
          obtain ⟨h28, hf⟩ := nz_chk_t hf
          refine nz_iast (pc := 138) (c := 17) E rfl h28 dX5_gather_138 ?_
          refine nz_aload_n (pc := 139) (i := 0) E dX5_gather_139 rfl rfl ?_
          refine nz_getR (pc := 140) (c := 11) (kf := 7) E rfl rfl (nz_upT nz_uX5) (by decide) (List.mem_cons_of_mem _ nz_w141) rfl rfl dX5_gather_140 ?_
          refine nz_iload_n (pc := 143) (i := 1) E dX5_gather_143 rfl rfl ?_
          refine nz_iconst (pc := 144) (v := 3) E dX5_gather_144 (by decide) ?_
          obtain ⟨h30, hf⟩ := nz_chk_t hf
          refine nz_iast (pc := 145) (c := 19) E rfl h30 dX5_gather_145 ?_
          refine nz_iinc (pc := 146) (i := 4) (w := 1) E dX5_gather_146 rfl (by decide) (by decide) rfl ?_
          refine nz_goto (pc := 149) (tgt := 47) E dX5_gather_149 (by decide) ?_
          refine nz_weak (lv' := [(0, .ref (q 11)), (1, .int _), (2, .int _), (3, .int _), (4, .int _)]) ⟨rfl, rfl, rfl, rfl, rfl, trivial⟩ ?_
          exact ih _ _ _ _ _ hf hK
set_option maxHeartbeats 4000000 in
set_option maxRecDepth 20000 in
theorem w_X5_gather_155 {κ : nz_C} {q : Nat → Nat} {o : Unit × nz_S} (c1 : Int32) (c2 : Int32) (E : nz_Env κ q nz_tK 8 cX5_gather RX5 (nz_T yX5_gather cX5_gather 8 (none)) (nz_R 2 46)) (hR : nz_RV κ q nz_tK o) : ∀ (fu : Nat) (w4 : Int32) (x : nz_S) (K : Int32 → nz_S → Option (Unit × nz_S)), f_X5_gather_155 c1 c2 fu w4 x K = some o → (∀ (w4 : Int32) (x : nz_S), K w4 x = some o → nz_St κ q nz_tK 8 185 [(0, .ref (q 11)), (1, .int c1), (2, .int c2), (4, .int w4)] [] x) → nz_St κ q nz_tK 8 155 [(0, .ref (q 11)), (1, .int c1), (2, .int c2), (4, .int w4)] [] x := by
  intro fu
  induction fu with
  | zero => intro w4 x K hf; rw [f_X5_gather_155] at hf; cases hf
  | succ fu ih =>
    intro w4 x K hf hK
    rw [f_X5_gather_155] at hf
    refine nz_iload (pc := 155) (i := 4) E dX5_gather_155 rfl ?_
    refine nz_bipush (pc := 157) (v := 12) E dX5_gather_157 (by decide) ?_
    refine nz_icmp_ge (pc := 159) (tgt := 185) E dX5_gather_159 (by decide) (fun h37 => ?_) (fun h37 => ?_)
    · have hf := nz_ite_t hf h37
      refine nz_weak (lv' := [(0, .ref (q 11)), (1, .int _), (2, .int _), (4, .int _)]) ⟨rfl, rfl, rfl, rfl, trivial⟩ ?_
      exact hK _ _ hf
    · have hf := nz_ite_f hf h37
      refine nz_iload_n (pc := 162) (i := 2) E dX5_gather_162 rfl rfl ?_
      refine nz_iload (pc := 163) (i := 4) E dX5_gather_163 rfl ?_
      refine nz_ishr (pc := 165) E dX5_gather_165 ?_
      refine nz_iconst (pc := 166) (v := 1) E dX5_gather_166 (by decide) ?_
      refine nz_iand (pc := 167) E dX5_gather_167 ?_
      refine nz_if_eq (pc := 168) (tgt := 179) E dX5_gather_168 (by decide) (fun h38 => ?_) (fun h38 => ?_)
      · have hf := nz_ite_t hf h38
        refine nz_iinc (pc := 179) (i := 4) (w := 1) E dX5_gather_179 rfl (by decide) (by decide) rfl ?_
        refine nz_goto (pc := 182) (tgt := 155) E dX5_gather_182 (by decide) ?_
        refine nz_weak (lv' := [(0, .ref (q 11)), (1, .int _), (2, .int _), (4, .int _)]) ⟨rfl, rfl, rfl, rfl, trivial⟩ ?_
        exact ih _ _ _ hf hK
      · have hf := nz_ite_f hf h38
        refine nz_aload_n (pc := 171) (i := 0) E dX5_gather_171 rfl rfl ?_
        refine nz_getR (pc := 172) (c := 11) (kf := 6) E rfl rfl (nz_upT nz_uX5) (by decide) (List.mem_cons_of_mem _ nz_w139) rfl rfl dX5_gather_172 ?_
        refine nz_iload (pc := 175) (i := 4) E dX5_gather_175 rfl ?_
        refine nz_iload_n (pc := 177) (i := 1) E dX5_gather_177 rfl rfl ?_
        obtain ⟨h40, hf⟩ := nz_chk_t hf
        refine nz_iast (pc := 178) (c := 18) E rfl h40 dX5_gather_178 ?_
        refine nz_iinc (pc := 179) (i := 4) (w := 1) E dX5_gather_179 rfl (by decide) (by decide) rfl ?_
        refine nz_goto (pc := 182) (tgt := 155) E dX5_gather_182 (by decide) ?_
        refine nz_weak (lv' := [(0, .ref (q 11)), (1, .int _), (2, .int _), (4, .int _)]) ⟨rfl, rfl, rfl, rfl, trivial⟩ ?_
        exact ih _ _ _ hf hK
set_option maxHeartbeats 4000000 in
set_option maxRecDepth 20000 in
theorem k_X5_gather {l : Launch} {w : nz_O} {q : Nat → Nat} (a0 : Int32) (x : nz_S) (o : Unit × nz_S) (hf : f_X5_gather a0 x = some o) : nz_MV l yX5_gather (nz_T yX5_gather cX5_gather 8 (none)) (nz_R 2 46) w q nz_tK [.ref (q 11), .int a0] x o := by
  refine nz_enterV (by decide) rfl (Nat.le_of_ble_eq_true rfl) rfl rfl ?_
  intro κ E hw hlq hR
  subst hw; subst hlq
  unfold f_X5_gather at hf
  refine nz_weak (lv' := [(0, .ref (q 11)), (1, .int a0)]) ⟨rfl, rfl, trivial⟩ ?_
  refine nz_aload_n (pc := 0) (i := 0) E dX5_gather_0 rfl rfl ?_
  refine nz_getR (pc := 1) (c := 11) (kf := 4) E rfl rfl (nz_upT nz_uX5) (by decide) (List.mem_cons_of_mem _ nz_w136) rfl rfl dX5_gather_1 ?_
  refine nz_iload_n (pc := 4) (i := 1) E dX5_gather_4 rfl rfl ?_
  obtain ⟨h1, hf⟩ := nz_chk_t hf
  refine nz_iald (pc := 5) (c := 16) E rfl h1 dX5_gather_5 ?_
  refine nz_if_ne (pc := 6) (tgt := 10) E dX5_gather_6 (by decide) (fun h2 => ?_) (fun h2 => ?_)
  · have hf := nz_ite_f hf h2
    refine nz_aload_n (pc := 10) (i := 0) E dX5_gather_10 rfl rfl ?_
    refine nz_aload_n (pc := 11) (i := 0) E dX5_gather_11 rfl rfl ?_
    refine nz_getR (pc := 12) (c := 11) (kf := 4) E rfl rfl (nz_upT nz_uX5) (by decide) (List.mem_cons_of_mem _ nz_w136) rfl rfl dX5_gather_12 ?_
    refine nz_iload_n (pc := 15) (i := 1) E dX5_gather_15 rfl rfl ?_
    obtain ⟨h3, hf⟩ := nz_chk_t hf
    refine nz_iald (pc := 16) (c := 16) E rfl h3 dX5_gather_16 ?_
    obtain ⟨r4, x5, h6, hf⟩ := nz_bnd_t hf
    refine nz_callVI (pc := 17) (c0 := 11) (As := [.int _]) E rfl rfl (k_X5_leadersOf   _ _ _ h6) (nz_cwV E nz_w373 nz_w375 nz_w5 nz_w61 nz_w376 ds_X5_leadersOf ⟨Nat.le_of_ble_eq_true rfl, Nat.le_of_ble_eq_true rfl⟩ rfl rfl) rfl rfl (Nat.le_of_ble_eq_true rfl) dX5_gather_17 ?_
    refine nz_iconst (pc := 20) (v := 1) E dX5_gather_20 (by decide) ?_
    refine nz_iload_n (pc := 21) (i := 1) E dX5_gather_21 rfl rfl ?_
    refine nz_ishl (pc := 22) E dX5_gather_22 ?_
    refine nz_iconst (pc := 23) (v := -1) E dX5_gather_23 (by decide) ?_
    refine nz_ixor (pc := 24) E dX5_gather_24 ?_
    refine nz_iand (pc := 25) E dX5_gather_25 ?_
    refine nz_istore_n (pc := 26) (i := 2) E dX5_gather_26 rfl (by decide) rfl ?_
    refine nz_iconst (pc := 27) (v := 0) E dX5_gather_27 (by decide) ?_
    refine nz_istore_n (pc := 28) (i := 3) E dX5_gather_28 rfl (by decide) rfl ?_
    refine nz_aload_n (pc := 29) (i := 0) E dX5_gather_29 rfl rfl ?_
    refine nz_getR (pc := 30) (c := 11) (kf := 7) E rfl rfl (nz_upT nz_uX5) (by decide) (List.mem_cons_of_mem _ nz_w141) rfl rfl dX5_gather_30 ?_
    refine nz_iload_n (pc := 33) (i := 1) E dX5_gather_33 rfl rfl ?_
    refine nz_iload_n (pc := 34) (i := 2) E dX5_gather_34 rfl rfl ?_
    refine nz_if_ne (pc := 35) (tgt := 42) E dX5_gather_35 (by decide) (fun h8 => ?_) (fun h8 => ?_)
    · have hf := nz_ite_f hf h8
      refine nz_iconst (pc := 42) (v := 2) E dX5_gather_42 (by decide) ?_
      obtain ⟨h9, hf⟩ := nz_chk_t hf
      refine nz_iast (pc := 43) (c := 19) E rfl h9 dX5_gather_43 ?_
      refine nz_iconst (pc := 44) (v := 0) E dX5_gather_44 (by decide) ?_
      refine nz_istore (pc := 45) (i := 4) E dX5_gather_45 (by decide) rfl ?_
      refine nz_weak (lv' := [(0, .ref (q 11)), (1, .int _), (2, .int _), (3, .int _), (4, .int _)]) ⟨rfl, rfl, rfl, rfl, rfl, trivial⟩ ?_
      refine w_X5_gather_47 _ E hR _ _ _ _ _ _ hf (fun u34 u35 u36 x33 hf => ?_)
      refine nz_iconst (pc := 152) (v := 0) E dX5_gather_152 (by decide) ?_
      refine nz_istore (pc := 153) (i := 4) E dX5_gather_153 (by decide) rfl ?_
      refine nz_weak (lv' := [(0, .ref (q 11)), (1, .int _), (2, .int _), (4, .int _)]) ⟨rfl, rfl, rfl, rfl, trivial⟩ ?_
      refine w_X5_gather_155 _ _ E hR _ _ _ _ hf (fun u44 x43 hf => ?_)
      exact nz_vret (pc := 185) E hR hf dX5_gather_185
    · have hf := nz_ite_t hf h8
      refine nz_iconst (pc := 38) (v := 1) E dX5_gather_38 (by decide) ?_
      refine nz_goto (pc := 39) (tgt := 43) E dX5_gather_39 (by decide) ?_
      obtain ⟨h45, hf⟩ := nz_chk_t hf
      refine nz_iast (pc := 43) (c := 19) E rfl h45 dX5_gather_43 ?_
      refine nz_iconst (pc := 44) (v := 0) E dX5_gather_44 (by decide) ?_
      refine nz_istore (pc := 45) (i := 4) E dX5_gather_45 (by decide) rfl ?_
      refine nz_weak (lv' := [(0, .ref (q 11)), (1, .int _), (2, .int _), (3, .int _), (4, .int _)]) ⟨rfl, rfl, rfl, rfl, rfl, trivial⟩ ?_
      refine w_X5_gather_47 _ E hR _ _ _ _ _ _ hf (fun u48 u49 u50 x47 hf => ?_)
      refine nz_iconst (pc := 152) (v := 0) E dX5_gather_152 (by decide) ?_
      refine nz_istore (pc := 153) (i := 4) E dX5_gather_153 (by decide) rfl ?_
      refine nz_weak (lv' := [(0, .ref (q 11)), (1, .int _), (2, .int _), (4, .int _)]) ⟨rfl, rfl, rfl, rfl, trivial⟩ ?_
      refine w_X5_gather_155 _ _ E hR _ _ _ _ hf (fun u52 x51 hf => ?_)
      exact nz_vret (pc := 185) E hR hf dX5_gather_185
  · have hf := nz_ite_t hf h2
    exact nz_vret (pc := 9) E hR hf dX5_gather_9
def f_X5_read_24 (g : Nat) : Nat → Int32 → nz_S → (Int32 → nz_S → Option (Unit × nz_S)) → Option (Unit × nz_S)
  | 0, _, _, _ => none
  | fu + 1, w2, x, K =>
  if (x.1 11 8) ≤ w2 then
    K w2 x
  else
    nz_chk (nz_in w2 12) <|
    nz_bnd (f_X5_sortArcs g (x.1 13 (w2).toNatClampNeg) x) fun r7 x8 =>
    let v10 : Int32 := w2 + 1
    f_X5_read_24 g fu v10 x8 K
def f_X5_read_56 (g : Nat) : Nat → Int32 → nz_S → (Int32 → nz_S → Option (Unit × nz_S)) → Option (Unit × nz_S)
  | 0, _, _, _ => none
  | fu + 1, w2, x, K =>
  if w2 < (0 : Int32) then
    K w2 x
  else
    nz_chk (nz_in w2 12) <|
    nz_bnd (f_X5_gather  (x.1 13 (w2).toNatClampNeg) x) fun r16 x17 =>
    let v19 : Int32 := w2 + (-1)
    f_X5_read_56 g fu v19 x17 K
def f_X5_read (g : Nat) (x : nz_S) : Option (Unit × nz_S) :=
  nz_bnd (f_X5_clear   x) fun r1 x2 =>
  if (x2.1 g 3) ≤ (0 : Int32) then
    f_X5_read_24 g nz_F (0 : Int32) x2 fun u12 x11 =>
      let v13 : Int32 := ((x11.1 11 8) - (1 : Int32))
      f_X5_read_56 g nz_F v13 x11 fun u21 x20 =>
        some ((), x20)
  else
    nz_bnd (fv_X5_visit g 13 (0 : Int32) (0 : Int32) x2) fun r22 x23 =>
    let x25 : nz_S := nz_put x23 11 9 r22
    f_X5_read_24 g nz_F (0 : Int32) x25 fun u27 x26 =>
      let v28 : Int32 := ((x26.1 11 8) - (1 : Int32))
      f_X5_read_56 g nz_F v28 x26 fun u30 x29 =>
        some ((), x29)
theorem ds_X5_read : nz_dsc yX5_read 1 := by unfold nz_dsc; decide +kernel
set_option maxHeartbeats 4000000 in
set_option maxRecDepth 20000 in
theorem w_X5_read_24 {κ : nz_C} {q : Nat → Nat} {o : Unit × nz_S} (g : Nat) (hg : nz_isG g) (E : nz_Env κ q nz_tK 3 cX5_read RX5 (nz_T yX5_read cX5_read 3 (none)) (nz_R 14 364)) (hR : nz_RV κ q nz_tK o) : ∀ (fu : Nat) (w2 : Int32) (x : nz_S) (K : Int32 → nz_S → Option (Unit × nz_S)), f_X5_read_24 g fu w2 x K = some o → (∀ (w2 : Int32) (x : nz_S), K w2 x = some o → nz_St κ q nz_tK 3 49 [(0, .ref (q 11)), (1, .ref (q g)), (2, .int w2)] [] x) → nz_St κ q nz_tK 3 24 [(0, .ref (q 11)), (1, .ref (q g)), (2, .int w2)] [] x := by
  intro fu
  induction fu with
  | zero => intro w2 x K hf; rw [f_X5_read_24] at hf; cases hf
  | succ fu ih =>
    intro w2 x K hf hK
    rw [f_X5_read_24] at hf
    refine nz_iload_n (pc := 24) (i := 2) E dX5_read_24 rfl rfl ?_
    refine nz_aload_n (pc := 25) (i := 0) E dX5_read_25 rfl rfl ?_
    refine nz_getI (pc := 26) (c := 11) (kf := 8) E rfl rfl (nz_upT nz_uX5) (by decide) (List.mem_cons_of_mem _ nz_w143) rfl rfl dX5_read_26 ?_
    refine nz_icmp_ge (pc := 29) (tgt := 49) E dX5_read_29 (by decide) (fun h5 => ?_) (fun h5 => ?_)
    · have hf := nz_ite_t hf h5
      refine nz_weak (lv' := [(0, .ref (q 11)), (1, .ref (q g)), (2, .int _)]) ⟨rfl, rfl, rfl, trivial⟩ ?_
      exact hK _ _ hf
    · have hf := nz_ite_f hf h5
      refine nz_aload_n (pc := 32) (i := 0) E dX5_read_32 rfl rfl ?_
      refine nz_aload_n (pc := 33) (i := 1) E dX5_read_33 rfl rfl ?_
      refine nz_aload_n (pc := 34) (i := 0) E dX5_read_34 rfl rfl ?_
      refine nz_getR (pc := 35) (c := 11) (kf := 1) E rfl rfl (nz_upT nz_uX5) (by decide) (List.mem_cons_of_mem _ nz_w131) rfl rfl dX5_read_35 ?_
      refine nz_iload_n (pc := 38) (i := 2) E dX5_read_38 rfl rfl ?_
      obtain ⟨h6, hf⟩ := nz_chk_t hf
      refine nz_iald (pc := 39) (c := 13) E rfl h6 dX5_read_39 ?_
      obtain ⟨r7, x8, h9, hf⟩ := nz_bnd_t hf
      refine nz_callVV (pc := 40) (c0 := 11) (As := [.ref (q g), .int _]) E rfl rfl (k_X5_sortArcs g hg _ _ _ h9) (nz_cwV E nz_w365 nz_w367 nz_w3 nz_w61 nz_w368 ds_X5_sortArcs ⟨Nat.le_of_ble_eq_true rfl, Nat.le_of_ble_eq_true rfl⟩ rfl rfl) rfl rfl (Nat.le_of_ble_eq_true rfl) dX5_read_40 ?_
      refine nz_iinc (pc := 43) (i := 2) (w := 1) E dX5_read_43 rfl (by decide) (by decide) rfl ?_
      refine nz_goto (pc := 46) (tgt := 24) E dX5_read_46 (by decide) ?_
      refine nz_weak (lv' := [(0, .ref (q 11)), (1, .ref (q g)), (2, .int _)]) ⟨rfl, rfl, rfl, trivial⟩ ?_
      exact ih _ _ _ hf hK
set_option maxHeartbeats 4000000 in
set_option maxRecDepth 20000 in
theorem w_X5_read_56 {κ : nz_C} {q : Nat → Nat} {o : Unit × nz_S} (g : Nat) (hg : nz_isG g) (E : nz_Env κ q nz_tK 3 cX5_read RX5 (nz_T yX5_read cX5_read 3 (none)) (nz_R 14 364)) (hR : nz_RV κ q nz_tK o) : ∀ (fu : Nat) (w2 : Int32) (x : nz_S) (K : Int32 → nz_S → Option (Unit × nz_S)), f_X5_read_56 g fu w2 x K = some o → (∀ (w2 : Int32) (x : nz_S), K w2 x = some o → nz_St κ q nz_tK 3 76 [(0, .ref (q 11)), (2, .int w2)] [] x) → nz_St κ q nz_tK 3 56 [(0, .ref (q 11)), (2, .int w2)] [] x := by
  intro fu
  induction fu with
  | zero => intro w2 x K hf; rw [f_X5_read_56] at hf; cases hf
  | succ fu ih =>
    intro w2 x K hf hK
    rw [f_X5_read_56] at hf
    refine nz_iload_n (pc := 56) (i := 2) E dX5_read_56 rfl rfl ?_
    refine nz_if_lt (pc := 57) (tgt := 76) E dX5_read_57 (by decide) (fun h14 => ?_) (fun h14 => ?_)
    · have hf := nz_ite_t hf h14
      refine nz_weak (lv' := [(0, .ref (q 11)), (2, .int _)]) ⟨rfl, rfl, trivial⟩ ?_
      exact hK _ _ hf
    · have hf := nz_ite_f hf h14
      refine nz_aload_n (pc := 60) (i := 0) E dX5_read_60 rfl rfl ?_
      refine nz_aload_n (pc := 61) (i := 0) E dX5_read_61 rfl rfl ?_
      refine nz_getR (pc := 62) (c := 11) (kf := 1) E rfl rfl (nz_upT nz_uX5) (by decide) (List.mem_cons_of_mem _ nz_w131) rfl rfl dX5_read_62 ?_
      refine nz_iload_n (pc := 65) (i := 2) E dX5_read_65 rfl rfl ?_
      obtain ⟨h15, hf⟩ := nz_chk_t hf
      refine nz_iald (pc := 66) (c := 13) E rfl h15 dX5_read_66 ?_
      obtain ⟨r16, x17, h18, hf⟩ := nz_bnd_t hf
      refine nz_callVV (pc := 67) (c0 := 11) (As := [.int _]) E rfl rfl (k_X5_gather   _ _ _ h18) (nz_cwV E nz_w369 nz_w371 nz_w4 nz_w61 nz_w372 ds_X5_gather ⟨Nat.le_of_ble_eq_true rfl, Nat.le_of_ble_eq_true rfl⟩ rfl rfl) rfl rfl (Nat.le_of_ble_eq_true rfl) dX5_read_67 ?_
      refine nz_iinc (pc := 70) (i := 2) (w := -1) E dX5_read_70 rfl (by decide) (by decide) rfl ?_
      refine nz_goto (pc := 73) (tgt := 56) E dX5_read_73 (by decide) ?_
      refine nz_weak (lv' := [(0, .ref (q 11)), (2, .int _)]) ⟨rfl, rfl, trivial⟩ ?_
      exact ih _ _ _ hf hK
set_option maxHeartbeats 4000000 in
set_option maxRecDepth 20000 in
theorem k_X5_read {l : Launch} {w : nz_O} {q : Nat → Nat} (g : Nat) (hg : nz_isG g) (x : nz_S) (o : Unit × nz_S) (hf : f_X5_read g x = some o) : nz_MV l yX5_read (nz_T yX5_read cX5_read 3 (none)) (nz_R 14 364) w q nz_tK [.ref (q 11), .ref (q g)] x o := by
  refine nz_enterV (by decide) rfl (Nat.le_of_ble_eq_true rfl) rfl rfl ?_
  intro κ E hw hlq hR
  subst hw; subst hlq
  unfold f_X5_read at hf
  refine nz_weak (lv' := [(0, .ref (q 11)), (1, .ref (q g))]) ⟨rfl, rfl, trivial⟩ ?_
  refine nz_aload_n (pc := 0) (i := 0) E dX5_read_0 rfl rfl ?_
  obtain ⟨r1, x2, h3, hf⟩ := nz_bnd_t hf
  refine nz_callVV (pc := 1) (c0 := 11) (As := []) E rfl rfl (k_X5_clear   _ _ h3) (nz_cwV E nz_w347 nz_w349 nz_w2 nz_w61 nz_w350 ds_X5_clear ⟨Nat.le_of_ble_eq_true rfl, Nat.le_of_ble_eq_true rfl⟩ rfl rfl) rfl rfl (Nat.le_of_ble_eq_true rfl) dX5_read_1 ?_
  refine nz_aload_n (pc := 4) (i := 1) E dX5_read_4 rfl rfl ?_
  refine nz_getNI (pc := 5) (c := g) (kf := 3) E hg.1 rfl (nz_upT nz_uX0) (by decide) nz_n110 rfl rfl dX5_read_5 ?_
  refine nz_if_le (pc := 8) (tgt := 22) E dX5_read_8 (by decide) (fun h4 => ?_) (fun h4 => ?_)
  · have hf := nz_ite_t hf h4
    refine nz_iconst (pc := 22) (v := 0) E dX5_read_22 (by decide) ?_
    refine nz_istore_n (pc := 23) (i := 2) E dX5_read_23 rfl (by decide) rfl ?_
    refine nz_weak (lv' := [(0, .ref (q 11)), (1, .ref (q g)), (2, .int _)]) ⟨rfl, rfl, rfl, trivial⟩ ?_
    refine w_X5_read_24 g hg E hR _ _ _ _ hf (fun u12 x11 hf => ?_)
    refine nz_aload_n (pc := 49) (i := 0) E dX5_read_49 rfl rfl ?_
    refine nz_getI (pc := 50) (c := 11) (kf := 8) E rfl rfl (nz_upT nz_uX5) (by decide) (List.mem_cons_of_mem _ nz_w143) rfl rfl dX5_read_50 ?_
    refine nz_iconst (pc := 53) (v := 1) E dX5_read_53 (by decide) ?_
    refine nz_isub (pc := 54) E dX5_read_54 ?_
    refine nz_istore_n (pc := 55) (i := 2) E dX5_read_55 rfl (by decide) rfl ?_
    refine nz_weak (lv' := [(0, .ref (q 11)), (2, .int _)]) ⟨rfl, rfl, trivial⟩ ?_
    refine w_X5_read_56 g hg E hR _ _ _ _ hf (fun u21 x20 hf => ?_)
    exact nz_vret (pc := 76) E hR hf dX5_read_76
  · have hf := nz_ite_f hf h4
    refine nz_aload_n (pc := 11) (i := 0) E dX5_read_11 rfl rfl ?_
    refine nz_aload_n (pc := 12) (i := 0) E dX5_read_12 rfl rfl ?_
    refine nz_aload_n (pc := 13) (i := 1) E dX5_read_13 rfl rfl ?_
    refine nz_iconst (pc := 14) (v := 0) E dX5_read_14 (by decide) ?_
    refine nz_iconst (pc := 15) (v := 0) E dX5_read_15 (by decide) ?_
    obtain ⟨r22, x23, h24, hf⟩ := nz_bnd_t hf
    refine nz_callSI (pc := 16) (As := [.ref (q 11), .ref (q g), .int _, .int _]) E (kv_X5_visit g hg 13 _ _ _ _ h24) (nz_cwS E nz_w354 nz_w355 nz_w61 nz_w356 ds_X5_visit ⟨Nat.le_of_ble_eq_true rfl, Nat.le_of_ble_eq_true rfl⟩ rfl rfl) rfl rfl (Nat.le_of_ble_eq_true rfl) dX5_read_16 ?_
    refine nz_putI (pc := 19) (c := 11) (kf := 9) E rfl rfl (nz_upT nz_uX5) (by decide) (List.mem_cons_of_mem _ nz_w145) rfl tyX5 tyX5_ok nmX5 rfl (tyX5_ok 9 (by decide)) rfl dX5_read_19 ?_
    refine nz_iconst (pc := 22) (v := 0) E dX5_read_22 (by decide) ?_
    refine nz_istore_n (pc := 23) (i := 2) E dX5_read_23 rfl (by decide) rfl ?_
    refine nz_weak (lv' := [(0, .ref (q 11)), (1, .ref (q g)), (2, .int _)]) ⟨rfl, rfl, rfl, trivial⟩ ?_
    refine w_X5_read_24 g hg E hR _ _ _ _ hf (fun u27 x26 hf => ?_)
    refine nz_aload_n (pc := 49) (i := 0) E dX5_read_49 rfl rfl ?_
    refine nz_getI (pc := 50) (c := 11) (kf := 8) E rfl rfl (nz_upT nz_uX5) (by decide) (List.mem_cons_of_mem _ nz_w143) rfl rfl dX5_read_50 ?_
    refine nz_iconst (pc := 53) (v := 1) E dX5_read_53 (by decide) ?_
    refine nz_isub (pc := 54) E dX5_read_54 ?_
    refine nz_istore_n (pc := 55) (i := 2) E dX5_read_55 rfl (by decide) rfl ?_
    refine nz_weak (lv' := [(0, .ref (q 11)), (2, .int _)]) ⟨rfl, rfl, trivial⟩ ?_
    refine w_X5_read_56 g hg E hR _ _ _ _ hf (fun u30 x29 hf => ?_)
    exact nz_vret (pc := 76) E hR hf dX5_read_76
def f_X5_countLoops_4 : Nat → Int32 → Int32 → nz_S → (Int32 → Int32 → nz_S → Option (Int32 × nz_S)) → Option (Int32 × nz_S)
  | 0, _, _, _, _ => none
  | fu + 1, w1, w2, x, K =>
  if (12 : Int32) ≤ w2 then
    K w1 w2 x
  else
    nz_chk (nz_in w2 12) <|
    if (x.1 19 (w2).toNatClampNeg) = (0 : Int32) then
      let v6 : Int32 := (w1 + (0 : Int32))
      let v7 : Int32 := w2 + 1
      f_X5_countLoops_4 fu v6 v7 x K
    else
      let v4 : Int32 := (w1 + (1 : Int32))
      let v5 : Int32 := w2 + 1
      f_X5_countLoops_4 fu v4 v5 x K
def f_X5_countLoops (x : nz_S) : Option (Int32 × nz_S) :=
  f_X5_countLoops_4 nz_F (0 : Int32) (0 : Int32) x fun u9 u10 x8 =>
    some (u9, x8)
theorem ds_X5_countLoops : nz_dsc yX5_countLoops 0 := by unfold nz_dsc; decide +kernel
set_option maxHeartbeats 4000000 in
set_option maxRecDepth 20000 in
theorem w_X5_countLoops_4 {κ : nz_C} {q : Nat → Nat} {o : Int32 × nz_S} (E : nz_Env κ q nz_tK 3 cX5_countLoops RX5 (nz_T yX5_countLoops cX5_countLoops 3 (some .int)) (nz_R 0 0)) (hR : nz_RI κ q nz_tK .int o) : ∀ (fu : Nat) (w1 : Int32) (w2 : Int32) (x : nz_S) (K : Int32 → Int32 → nz_S → Option (Int32 × nz_S)), f_X5_countLoops_4 fu w1 w2 x K = some o → (∀ (w1 : Int32) (w2 : Int32) (x : nz_S), K w1 w2 x = some o → nz_St κ q nz_tK 3 33 [(0, .ref (q 11)), (1, .int w1), (2, .int w2)] [] x) → nz_St κ q nz_tK 3 4 [(0, .ref (q 11)), (1, .int w1), (2, .int w2)] [] x := by
  intro fu
  induction fu with
  | zero => intro w1 w2 x K hf; rw [f_X5_countLoops_4] at hf; cases hf
  | succ fu ih =>
    intro w1 w2 x K hf hK
    rw [f_X5_countLoops_4] at hf
    refine nz_iload_n (pc := 4) (i := 2) E dX5_countLoops_4 rfl rfl ?_
    refine nz_bipush (pc := 5) (v := 12) E dX5_countLoops_5 (by decide) ?_
    refine nz_icmp_ge (pc := 7) (tgt := 33) E dX5_countLoops_7 (by decide) (fun h1 => ?_) (fun h1 => ?_)
    · have hf := nz_ite_t hf h1
      refine nz_weak (lv' := [(0, .ref (q 11)), (1, .int _), (2, .int _)]) ⟨rfl, rfl, rfl, trivial⟩ ?_
      exact hK _ _ _ hf
    · have hf := nz_ite_f hf h1
      refine nz_iload_n (pc := 10) (i := 1) E dX5_countLoops_10 rfl rfl ?_
      refine nz_aload_n (pc := 11) (i := 0) E dX5_countLoops_11 rfl rfl ?_
      refine nz_getR (pc := 12) (c := 11) (kf := 7) E rfl rfl (nz_upT nz_uX5) (by decide) (List.mem_cons_of_mem _ nz_w141) rfl rfl dX5_countLoops_12 ?_
      refine nz_iload_n (pc := 15) (i := 2) E dX5_countLoops_15 rfl rfl ?_
      obtain ⟨h2, hf⟩ := nz_chk_t hf
      refine nz_iald (pc := 16) (c := 19) E rfl h2 dX5_countLoops_16 ?_
      refine nz_if_ne (pc := 17) (tgt := 24) E dX5_countLoops_17 (by decide) (fun h3 => ?_) (fun h3 => ?_)
      · have hf := nz_ite_f hf h3
        refine nz_iconst (pc := 24) (v := 1) E dX5_countLoops_24 (by decide) ?_
        refine nz_iadd (pc := 25) E dX5_countLoops_25 ?_
        refine nz_istore_n (pc := 26) (i := 1) E dX5_countLoops_26 rfl (by decide) rfl ?_
        refine nz_iinc (pc := 27) (i := 2) (w := 1) E dX5_countLoops_27 rfl (by decide) (by decide) rfl ?_
        refine nz_goto (pc := 30) (tgt := 4) E dX5_countLoops_30 (by decide) ?_
        refine nz_weak (lv' := [(0, .ref (q 11)), (1, .int _), (2, .int _)]) ⟨rfl, rfl, rfl, trivial⟩ ?_
        exact ih _ _ _ _ hf hK
      · have hf := nz_ite_t hf h3
        refine nz_iconst (pc := 20) (v := 0) E dX5_countLoops_20 (by decide) ?_
        refine nz_goto (pc := 21) (tgt := 25) E dX5_countLoops_21 (by decide) ?_
        refine nz_iadd (pc := 25) E dX5_countLoops_25 ?_
        refine nz_istore_n (pc := 26) (i := 1) E dX5_countLoops_26 rfl (by decide) rfl ?_
        refine nz_iinc (pc := 27) (i := 2) (w := 1) E dX5_countLoops_27 rfl (by decide) (by decide) rfl ?_
        refine nz_goto (pc := 30) (tgt := 4) E dX5_countLoops_30 (by decide) ?_
        refine nz_weak (lv' := [(0, .ref (q 11)), (1, .int _), (2, .int _)]) ⟨rfl, rfl, rfl, trivial⟩ ?_
        exact ih _ _ _ _ hf hK
set_option maxHeartbeats 4000000 in
set_option maxRecDepth 20000 in
theorem k_X5_countLoops {l : Launch} {w : nz_O} {q : Nat → Nat} (x : nz_S) (o : Int32 × nz_S) (hf : f_X5_countLoops x = some o) : nz_MI l yX5_countLoops (nz_T yX5_countLoops cX5_countLoops 3 (some .int)) (nz_R 0 0) w q nz_tK [.ref (q 11)] x o := by
  refine nz_enterI (by decide) rfl (Nat.le_of_ble_eq_true rfl) rfl rfl ?_
  intro κ E hw hlq hR
  subst hw; subst hlq
  unfold f_X5_countLoops at hf
  refine nz_weak (lv' := [(0, .ref (q 11))]) ⟨rfl, trivial⟩ ?_
  refine nz_iconst (pc := 0) (v := 0) E dX5_countLoops_0 (by decide) ?_
  refine nz_istore_n (pc := 1) (i := 1) E dX5_countLoops_1 rfl (by decide) rfl ?_
  refine nz_iconst (pc := 2) (v := 0) E dX5_countLoops_2 (by decide) ?_
  refine nz_istore_n (pc := 3) (i := 2) E dX5_countLoops_3 rfl (by decide) rfl ?_
  refine nz_weak (lv' := [(0, .ref (q 11)), (1, .int _), (2, .int _)]) ⟨rfl, rfl, rfl, trivial⟩ ?_
  refine w_X5_countLoops_4 E hR _ _ _ _ _ hf (fun u9 u10 x8 hf => ?_)
  refine nz_iload_n (pc := 33) (i := 1) E dX5_countLoops_33 rfl rfl ?_
  exact nz_iret (pc := 34) E hR rfl hf dX5_countLoops_34
def f_X5_countManyEntered_4 : Nat → Int32 → Int32 → nz_S → (Int32 → Int32 → nz_S → Option (Int32 × nz_S)) → Option (Int32 × nz_S)
  | 0, _, _, _, _ => none
  | fu + 1, w1, w2, x, K =>
  if (12 : Int32) ≤ w2 then
    K w1 w2 x
  else
    nz_chk (nz_in w2 12) <|
    if (x.1 19 (w2).toNatClampNeg) = (3 : Int32) then
      let v6 : Int32 := (w1 + (1 : Int32))
      let v7 : Int32 := w2 + 1
      f_X5_countManyEntered_4 fu v6 v7 x K
    else
      let v4 : Int32 := (w1 + (0 : Int32))
      let v5 : Int32 := w2 + 1
      f_X5_countManyEntered_4 fu v4 v5 x K
def f_X5_countManyEntered (x : nz_S) : Option (Int32 × nz_S) :=
  f_X5_countManyEntered_4 nz_F (0 : Int32) (0 : Int32) x fun u9 u10 x8 =>
    some (u9, x8)
theorem ds_X5_countManyEntered : nz_dsc yX5_countManyEntered 0 := by unfold nz_dsc; decide +kernel
set_option maxHeartbeats 4000000 in
set_option maxRecDepth 20000 in
theorem w_X5_countManyEntered_4 {κ : nz_C} {q : Nat → Nat} {o : Int32 × nz_S} (E : nz_Env κ q nz_tK 3 cX5_countManyEntered RX5 (nz_T yX5_countManyEntered cX5_countManyEntered 3 (some .int)) (nz_R 0 0)) (hR : nz_RI κ q nz_tK .int o) : ∀ (fu : Nat) (w1 : Int32) (w2 : Int32) (x : nz_S) (K : Int32 → Int32 → nz_S → Option (Int32 × nz_S)), f_X5_countManyEntered_4 fu w1 w2 x K = some o → (∀ (w1 : Int32) (w2 : Int32) (x : nz_S), K w1 w2 x = some o → nz_St κ q nz_tK 3 34 [(0, .ref (q 11)), (1, .int w1), (2, .int w2)] [] x) → nz_St κ q nz_tK 3 4 [(0, .ref (q 11)), (1, .int w1), (2, .int w2)] [] x := by
  intro fu
  induction fu with
  | zero => intro w1 w2 x K hf; rw [f_X5_countManyEntered_4] at hf; cases hf
  | succ fu ih =>
    intro w1 w2 x K hf hK
    rw [f_X5_countManyEntered_4] at hf
    refine nz_iload_n (pc := 4) (i := 2) E dX5_countManyEntered_4 rfl rfl ?_
    refine nz_bipush (pc := 5) (v := 12) E dX5_countManyEntered_5 (by decide) ?_
    refine nz_icmp_ge (pc := 7) (tgt := 34) E dX5_countManyEntered_7 (by decide) (fun h1 => ?_) (fun h1 => ?_)
    · have hf := nz_ite_t hf h1
      refine nz_weak (lv' := [(0, .ref (q 11)), (1, .int _), (2, .int _)]) ⟨rfl, rfl, rfl, trivial⟩ ?_
      exact hK _ _ _ hf
    · have hf := nz_ite_f hf h1
      refine nz_iload_n (pc := 10) (i := 1) E dX5_countManyEntered_10 rfl rfl ?_
      refine nz_aload_n (pc := 11) (i := 0) E dX5_countManyEntered_11 rfl rfl ?_
      refine nz_getR (pc := 12) (c := 11) (kf := 7) E rfl rfl (nz_upT nz_uX5) (by decide) (List.mem_cons_of_mem _ nz_w141) rfl rfl dX5_countManyEntered_12 ?_
      refine nz_iload_n (pc := 15) (i := 2) E dX5_countManyEntered_15 rfl rfl ?_
      obtain ⟨h2, hf⟩ := nz_chk_t hf
      refine nz_iald (pc := 16) (c := 19) E rfl h2 dX5_countManyEntered_16 ?_
      refine nz_iconst (pc := 17) (v := 3) E dX5_countManyEntered_17 (by decide) ?_
      refine nz_icmp_ne (pc := 18) (tgt := 25) E dX5_countManyEntered_18 (by decide) (fun h3 => ?_) (fun h3 => ?_)
      · have hf := nz_ite_f hf h3
        refine nz_iconst (pc := 25) (v := 0) E dX5_countManyEntered_25 (by decide) ?_
        refine nz_iadd (pc := 26) E dX5_countManyEntered_26 ?_
        refine nz_istore_n (pc := 27) (i := 1) E dX5_countManyEntered_27 rfl (by decide) rfl ?_
        refine nz_iinc (pc := 28) (i := 2) (w := 1) E dX5_countManyEntered_28 rfl (by decide) (by decide) rfl ?_
        refine nz_goto (pc := 31) (tgt := 4) E dX5_countManyEntered_31 (by decide) ?_
        refine nz_weak (lv' := [(0, .ref (q 11)), (1, .int _), (2, .int _)]) ⟨rfl, rfl, rfl, trivial⟩ ?_
        exact ih _ _ _ _ hf hK
      · have hf := nz_ite_t hf h3
        refine nz_iconst (pc := 21) (v := 1) E dX5_countManyEntered_21 (by decide) ?_
        refine nz_goto (pc := 22) (tgt := 26) E dX5_countManyEntered_22 (by decide) ?_
        refine nz_iadd (pc := 26) E dX5_countManyEntered_26 ?_
        refine nz_istore_n (pc := 27) (i := 1) E dX5_countManyEntered_27 rfl (by decide) rfl ?_
        refine nz_iinc (pc := 28) (i := 2) (w := 1) E dX5_countManyEntered_28 rfl (by decide) (by decide) rfl ?_
        refine nz_goto (pc := 31) (tgt := 4) E dX5_countManyEntered_31 (by decide) ?_
        refine nz_weak (lv' := [(0, .ref (q 11)), (1, .int _), (2, .int _)]) ⟨rfl, rfl, rfl, trivial⟩ ?_
        exact ih _ _ _ _ hf hK
set_option maxHeartbeats 4000000 in
set_option maxRecDepth 20000 in
theorem k_X5_countManyEntered {l : Launch} {w : nz_O} {q : Nat → Nat} (x : nz_S) (o : Int32 × nz_S) (hf : f_X5_countManyEntered x = some o) : nz_MI l yX5_countManyEntered (nz_T yX5_countManyEntered cX5_countManyEntered 3 (some .int)) (nz_R 0 0) w q nz_tK [.ref (q 11)] x o := by
  refine nz_enterI (by decide) rfl (Nat.le_of_ble_eq_true rfl) rfl rfl ?_
  intro κ E hw hlq hR
  subst hw; subst hlq
  unfold f_X5_countManyEntered at hf
  refine nz_weak (lv' := [(0, .ref (q 11))]) ⟨rfl, trivial⟩ ?_
  refine nz_iconst (pc := 0) (v := 0) E dX5_countManyEntered_0 (by decide) ?_
  refine nz_istore_n (pc := 1) (i := 1) E dX5_countManyEntered_1 rfl (by decide) rfl ?_
  refine nz_iconst (pc := 2) (v := 0) E dX5_countManyEntered_2 (by decide) ?_
  refine nz_istore_n (pc := 3) (i := 2) E dX5_countManyEntered_3 rfl (by decide) rfl ?_
  refine nz_weak (lv' := [(0, .ref (q 11)), (1, .int _), (2, .int _)]) ⟨rfl, rfl, rfl, trivial⟩ ?_
  refine w_X5_countManyEntered_4 E hR _ _ _ _ _ hf (fun u9 u10 x8 hf => ?_)
  refine nz_iload_n (pc := 34) (i := 1) E dX5_countManyEntered_34 rfl rfl ?_
  exact nz_iret (pc := 35) E hR rfl hf dX5_countManyEntered_35
