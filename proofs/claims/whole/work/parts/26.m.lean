def f_X8_rows_54 (c1 : Int32) (c2 : Int32) : Nat → Int32 → Int32 → nz_S → (Int32 → Int32 → nz_S → Option (Int32 × nz_S)) → Option (Int32 × nz_S)
  | 0, _, _, _, _ => none
  | fu + 1, w3, w4, x, K =>
  if (x.1 0 11) ≤ w4 then
    K w3 w4 x
  else
    if w3 = (0 : Int32) then
      let v13 : Int32 := w4 + 1
      f_X8_rows_54 c1 c2 fu (0 : Int32) v13 x K
    else
      nz_chk (nz_in w4 6) <|
      nz_bnd (f_X8_actBehind  c2 (x.1 8 (w4).toNatClampNeg) x) fun r15 x16 =>
      nz_chk (nz_in w4 6) <|
      if r15 = (x16.1 9 (w4).toNatClampNeg) then
        nz_chk (nz_in w4 6) <|
        if (x16.1 10 (w4).toNatClampNeg) = (1 : Int32) then
          let v31 : Int32 := w4 + 1
          f_X8_rows_54 c1 c2 fu (1 : Int32) v31 x16 K
        else
          let v29 : Int32 := w4 + 1
          f_X8_rows_54 c1 c2 fu (0 : Int32) v29 x16 K
      else
        nz_chk (nz_in w4 6) <|
        if (x16.1 10 (w4).toNatClampNeg) = (1 : Int32) then
          let v25 : Int32 := w4 + 1
          f_X8_rows_54 c1 c2 fu (0 : Int32) v25 x16 K
        else
          let v23 : Int32 := w4 + 1
          f_X8_rows_54 c1 c2 fu (1 : Int32) v23 x16 K
def f_X8_rows_43 (c1 : Int32) : Nat → Int32 → nz_S → (Int32 → nz_S → Option (Int32 × nz_S)) → Option (Int32 × nz_S)
  | 0, _, _, _ => none
  | fu + 1, w2, x, K =>
  if (81 : Int32) ≤ w2 then
    K w2 x
  else
    f_X8_rows_54 c1 w2 nz_F (1 : Int32) (0 : Int32) x fun u33 u34 x32 =>
      if u33 = (0 : Int32) then
        let x36 : nz_S := nz_put x32 0 26 (x32.1 0 26)
        if u33 = (0 : Int32) then
          let x38 : nz_S := nz_put x36 0 25 ((x36.1 0 25) + (0 : Int32))
          let v39 : Int32 := w2 + 1
          f_X8_rows_43 c1 fu v39 x38 K
        else
          let x40 : nz_S := nz_put x36 0 25 ((x36.1 0 25) + (1 : Int32))
          let v41 : Int32 := w2 + 1
          f_X8_rows_43 c1 fu v41 x40 K
      else
        if (x32.1 0 25) = (0 : Int32) then
          nz_bnd (f_X8_figures  w2 x32) fun r49 x50 =>
          let x52 : nz_S := nz_put x50 0 26 r49
          if u33 = (0 : Int32) then
            let x54 : nz_S := nz_put x52 0 25 ((x52.1 0 25) + (0 : Int32))
            let v55 : Int32 := w2 + 1
            f_X8_rows_43 c1 fu v55 x54 K
          else
            let x56 : nz_S := nz_put x52 0 25 ((x52.1 0 25) + (1 : Int32))
            let v57 : Int32 := w2 + 1
            f_X8_rows_43 c1 fu v57 x56 K
        else
          let x43 : nz_S := nz_put x32 0 26 (x32.1 0 26)
          if u33 = (0 : Int32) then
            let x45 : nz_S := nz_put x43 0 25 ((x43.1 0 25) + (0 : Int32))
            let v46 : Int32 := w2 + 1
            f_X8_rows_43 c1 fu v46 x45 K
          else
            let x47 : nz_S := nz_put x43 0 25 ((x43.1 0 25) + (1 : Int32))
            let v48 : Int32 := w2 + 1
            f_X8_rows_43 c1 fu v48 x47 K
def f_X8_rows (a0 : Int32) (x : nz_S) : Option (Int32 × nz_S) :=
  let x1 : nz_S := nz_put x 0 0 (0 : Int32)
  nz_bnd (f_X8_in  (a0).toInt64 (0 : Int64) (1 : Int64) x1) fun r2 x3 =>
  if r2 = (0 : Int32) then
    some ((-2 : Int32), x3)
  else
    nz_chk (nz_in (0 : Int32) 61) <|
    if (x3.1 3 ((0 : Int32)).toNatClampNeg) = (0 : Int32) then
      some ((-3 : Int32), x3)
    else
      let x8 : nz_S := nz_put x3 0 25 (0 : Int32)
      let x9 : nz_S := nz_put x8 0 26 (-9 : Int32)
      f_X8_rows_43 a0 nz_F (0 : Int32) x9 fun u59 x58 =>
        if a0 = (0 : Int32) then
          some ((x58.1 0 25), x58)
        else
          some ((x58.1 0 26), x58)
theorem ds_X8_rows : nz_dsc yX8_rows 1 := by unfold nz_dsc; decide +kernel
set_option maxHeartbeats 4000000 in
set_option maxRecDepth 20000 in
theorem w_X8_rows_54 {κ : nz_C} {q : Nat → Nat} {o : Int32 × nz_S} (c1 : Int32) (c2 : Int32) (E : nz_Env κ q nz_tM 5 cX8_rows RX8 (nz_T yX8_rows cX8_rows 5 (some .int)) (nz_R 2 47)) (hR : nz_RI κ q nz_tM .int o) : ∀ (fu : Nat) (w3 : Int32) (w4 : Int32) (x : nz_S) (K : Int32 → Int32 → nz_S → Option (Int32 × nz_S)), f_X8_rows_54 c1 c2 fu w3 w4 x K = some o → (∀ (w3 : Int32) (w4 : Int32) (x : nz_S), K w3 w4 x = some o → nz_St κ q nz_tM 5 125 [(0, .ref (q 0)), (1, .int c1), (2, .int c2), (3, .int w3), (4, .int w4)] [] x) → nz_St κ q nz_tM 5 54 [(0, .ref (q 0)), (1, .int c1), (2, .int c2), (3, .int w3), (4, .int w4)] [] x := by
  intro fu
  induction fu with
  | zero => intro w3 w4 x K hf; rw [f_X8_rows_54] at hf; cases hf
  | succ fu ih =>
    intro w3 w4 x K hf hK
    rw [f_X8_rows_54] at hf
    refine nz_iload (pc := 54) (i := 4) E dX8_rows_54 rfl ?_
    refine nz_aload_n (pc := 56) (i := 0) E dX8_rows_56 rfl rfl ?_
    refine nz_getI (pc := 57) (c := 0) (kf := 11) E rfl rfl (nz_upT nz_uX8) (by decide) (List.mem_cons_of_mem _ nz_w687) rfl rfl dX8_rows_57 ?_
    refine nz_icmp_ge (pc := 60) (tgt := 125) E dX8_rows_60 (by decide) (fun h11 => ?_) (fun h11 => ?_)
    · have hf := nz_ite_t hf h11
      refine nz_weak (lv' := [(0, .ref (q 0)), (1, .int _), (2, .int _), (3, .int _), (4, .int _)]) ⟨rfl, rfl, rfl, rfl, rfl, trivial⟩ ?_
      exact hK _ _ _ hf
    · have hf := nz_ite_f hf h11
      refine nz_iload_n (pc := 63) (i := 3) E dX8_rows_63 rfl rfl ?_
      refine nz_if_eq (pc := 64) (tgt := 117) E dX8_rows_64 (by decide) (fun h12 => ?_) (fun h12 => ?_)
      · have hf := nz_ite_t hf h12
        refine nz_iconst (pc := 117) (v := 0) E dX8_rows_117 (by decide) ?_
        refine nz_istore_n (pc := 118) (i := 3) E dX8_rows_118 rfl (by decide) rfl ?_
        refine nz_iinc (pc := 119) (i := 4) (w := 1) E dX8_rows_119 rfl (by decide) (by decide) rfl ?_
        refine nz_goto (pc := 122) (tgt := 54) E dX8_rows_122 (by decide) ?_
        refine nz_weak (lv' := [(0, .ref (q 0)), (1, .int _), (2, .int _), (3, .int _), (4, .int _)]) ⟨rfl, rfl, rfl, rfl, rfl, trivial⟩ ?_
        exact ih _ _ _ _ hf hK
      · have hf := nz_ite_f hf h12
        refine nz_aload_n (pc := 67) (i := 0) E dX8_rows_67 rfl rfl ?_
        refine nz_iload_n (pc := 68) (i := 2) E dX8_rows_68 rfl rfl ?_
        refine nz_aload_n (pc := 69) (i := 0) E dX8_rows_69 rfl rfl ?_
        refine nz_getR (pc := 70) (c := 0) (kf := 12) E rfl rfl (nz_upT nz_uX8) (by decide) (List.mem_cons_of_mem _ nz_w688) rfl rfl dX8_rows_70 ?_
        refine nz_iload (pc := 73) (i := 4) E dX8_rows_73 rfl ?_
        obtain ⟨h14, hf⟩ := nz_chk_t hf
        refine nz_iald (pc := 75) (c := 8) E rfl h14 dX8_rows_75 ?_
        obtain ⟨r15, x16, h17, hf⟩ := nz_bnd_t hf
        refine nz_callVI (pc := 76) (c0 := 0) (As := [.int _, .int _]) E rfl rfl (k_X8_actBehind   _ _ _ _ h17) (nz_cwV E nz_w1037 nz_w1039 nz_w56 nz_w67 nz_w1040 ds_X8_actBehind ⟨Nat.le_of_ble_eq_true rfl, Nat.le_of_ble_eq_true rfl⟩ rfl rfl) rfl rfl (Nat.le_of_ble_eq_true rfl) dX8_rows_76 ?_
        refine nz_aload_n (pc := 79) (i := 0) E dX8_rows_79 rfl rfl ?_
        refine nz_getR (pc := 80) (c := 0) (kf := 13) E rfl rfl (nz_upT nz_uX8) (by decide) (List.mem_cons_of_mem _ nz_w689) rfl rfl dX8_rows_80 ?_
        refine nz_iload (pc := 83) (i := 4) E dX8_rows_83 rfl ?_
        obtain ⟨h18, hf⟩ := nz_chk_t hf
        refine nz_iald (pc := 85) (c := 9) E rfl h18 dX8_rows_85 ?_
        refine nz_icmp_ne (pc := 86) (tgt := 93) E dX8_rows_86 (by decide) (fun h19 => ?_) (fun h19 => ?_)
        · have hf := nz_ite_f hf h19
          refine nz_iconst (pc := 93) (v := 0) E dX8_rows_93 (by decide) ?_
          refine nz_aload_n (pc := 94) (i := 0) E dX8_rows_94 rfl rfl ?_
          refine nz_getR (pc := 95) (c := 0) (kf := 14) E rfl rfl (nz_upT nz_uX8) (by decide) (List.mem_cons_of_mem _ nz_w690) rfl rfl dX8_rows_95 ?_
          refine nz_iload (pc := 98) (i := 4) E dX8_rows_98 rfl ?_
          obtain ⟨h20, hf⟩ := nz_chk_t hf
          refine nz_iald (pc := 100) (c := 10) E rfl h20 dX8_rows_100 ?_
          refine nz_iconst (pc := 101) (v := 1) E dX8_rows_101 (by decide) ?_
          refine nz_icmp_ne (pc := 102) (tgt := 109) E dX8_rows_102 (by decide) (fun h21 => ?_) (fun h21 => ?_)
          · have hf := nz_ite_f hf h21
            refine nz_iconst (pc := 109) (v := 0) E dX8_rows_109 (by decide) ?_
            refine nz_icmp_ne (pc := 110) (tgt := 117) E dX8_rows_110 (by decide) (fun h22 => absurd h22 (by decide)) (fun h22 => ?_)
            refine nz_iconst (pc := 113) (v := 1) E dX8_rows_113 (by decide) ?_
            refine nz_goto (pc := 114) (tgt := 118) E dX8_rows_114 (by decide) ?_
            refine nz_istore_n (pc := 118) (i := 3) E dX8_rows_118 rfl (by decide) rfl ?_
            refine nz_iinc (pc := 119) (i := 4) (w := 1) E dX8_rows_119 rfl (by decide) (by decide) rfl ?_
            refine nz_goto (pc := 122) (tgt := 54) E dX8_rows_122 (by decide) ?_
            refine nz_weak (lv' := [(0, .ref (q 0)), (1, .int _), (2, .int _), (3, .int _), (4, .int _)]) ⟨rfl, rfl, rfl, rfl, rfl, trivial⟩ ?_
            exact ih _ _ _ _ hf hK
          · have hf := nz_ite_t hf h21
            refine nz_iconst (pc := 105) (v := 1) E dX8_rows_105 (by decide) ?_
            refine nz_goto (pc := 106) (tgt := 110) E dX8_rows_106 (by decide) ?_
            refine nz_icmp_ne (pc := 110) (tgt := 117) E dX8_rows_110 (by decide) (fun h24 => ?_) (fun h24 => absurd h24 (by decide))
            refine nz_iconst (pc := 117) (v := 0) E dX8_rows_117 (by decide) ?_
            refine nz_istore_n (pc := 118) (i := 3) E dX8_rows_118 rfl (by decide) rfl ?_
            refine nz_iinc (pc := 119) (i := 4) (w := 1) E dX8_rows_119 rfl (by decide) (by decide) rfl ?_
            refine nz_goto (pc := 122) (tgt := 54) E dX8_rows_122 (by decide) ?_
            refine nz_weak (lv' := [(0, .ref (q 0)), (1, .int _), (2, .int _), (3, .int _), (4, .int _)]) ⟨rfl, rfl, rfl, rfl, rfl, trivial⟩ ?_
            exact ih _ _ _ _ hf hK
        · have hf := nz_ite_t hf h19
          refine nz_iconst (pc := 89) (v := 1) E dX8_rows_89 (by decide) ?_
          refine nz_goto (pc := 90) (tgt := 94) E dX8_rows_90 (by decide) ?_
          refine nz_aload_n (pc := 94) (i := 0) E dX8_rows_94 rfl rfl ?_
          refine nz_getR (pc := 95) (c := 0) (kf := 14) E rfl rfl (nz_upT nz_uX8) (by decide) (List.mem_cons_of_mem _ nz_w690) rfl rfl dX8_rows_95 ?_
          refine nz_iload (pc := 98) (i := 4) E dX8_rows_98 rfl ?_
          obtain ⟨h26, hf⟩ := nz_chk_t hf
          refine nz_iald (pc := 100) (c := 10) E rfl h26 dX8_rows_100 ?_
          refine nz_iconst (pc := 101) (v := 1) E dX8_rows_101 (by decide) ?_
          refine nz_icmp_ne (pc := 102) (tgt := 109) E dX8_rows_102 (by decide) (fun h27 => ?_) (fun h27 => ?_)
          · have hf := nz_ite_f hf h27
            refine nz_iconst (pc := 109) (v := 0) E dX8_rows_109 (by decide) ?_
            refine nz_icmp_ne (pc := 110) (tgt := 117) E dX8_rows_110 (by decide) (fun h28 => ?_) (fun h28 => absurd h28 (by decide))
            refine nz_iconst (pc := 117) (v := 0) E dX8_rows_117 (by decide) ?_
            refine nz_istore_n (pc := 118) (i := 3) E dX8_rows_118 rfl (by decide) rfl ?_
            refine nz_iinc (pc := 119) (i := 4) (w := 1) E dX8_rows_119 rfl (by decide) (by decide) rfl ?_
            refine nz_goto (pc := 122) (tgt := 54) E dX8_rows_122 (by decide) ?_
            refine nz_weak (lv' := [(0, .ref (q 0)), (1, .int _), (2, .int _), (3, .int _), (4, .int _)]) ⟨rfl, rfl, rfl, rfl, rfl, trivial⟩ ?_
            exact ih _ _ _ _ hf hK
          · have hf := nz_ite_t hf h27
            refine nz_iconst (pc := 105) (v := 1) E dX8_rows_105 (by decide) ?_
            refine nz_goto (pc := 106) (tgt := 110) E dX8_rows_106 (by decide) ?_
            refine nz_icmp_ne (pc := 110) (tgt := 117) E dX8_rows_110 (by decide) (fun h30 => absurd h30 (by decide)) (fun h30 => ?_)
            refine nz_iconst (pc := 113) (v := 1) E dX8_rows_113 (by decide) ?_
            refine nz_goto (pc := 114) (tgt := 118) E dX8_rows_114 (by decide) ?_
            refine nz_istore_n (pc := 118) (i := 3) E dX8_rows_118 rfl (by decide) rfl ?_
            refine nz_iinc (pc := 119) (i := 4) (w := 1) E dX8_rows_119 rfl (by decide) (by decide) rfl ?_
            refine nz_goto (pc := 122) (tgt := 54) E dX8_rows_122 (by decide) ?_
            refine nz_weak (lv' := [(0, .ref (q 0)), (1, .int _), (2, .int _), (3, .int _), (4, .int _)]) ⟨rfl, rfl, rfl, rfl, rfl, trivial⟩ ?_
            exact ih _ _ _ _ hf hK
set_option maxHeartbeats 4000000 in
set_option maxRecDepth 20000 in
theorem w_X8_rows_43 {κ : nz_C} {q : Nat → Nat} {o : Int32 × nz_S} (c1 : Int32) (E : nz_Env κ q nz_tM 5 cX8_rows RX8 (nz_T yX8_rows cX8_rows 5 (some .int)) (nz_R 2 47)) (hR : nz_RI κ q nz_tM .int o) : ∀ (fu : Nat) (w2 : Int32) (x : nz_S) (K : Int32 → nz_S → Option (Int32 × nz_S)), f_X8_rows_43 c1 fu w2 x K = some o → (∀ (w2 : Int32) (x : nz_S), K w2 x = some o → nz_St κ q nz_tM 5 175 [(0, .ref (q 0)), (1, .int c1), (2, .int w2)] [] x) → nz_St κ q nz_tM 5 43 [(0, .ref (q 0)), (1, .int c1), (2, .int w2)] [] x := by
  intro fu
  induction fu with
  | zero => intro w2 x K hf; rw [f_X8_rows_43] at hf; cases hf
  | succ fu ih =>
    intro w2 x K hf hK
    rw [f_X8_rows_43] at hf
    refine nz_iload_n (pc := 43) (i := 2) E dX8_rows_43 rfl rfl ?_
    refine nz_bipush (pc := 44) (v := 81) E dX8_rows_44 (by decide) ?_
    refine nz_icmp_ge (pc := 46) (tgt := 175) E dX8_rows_46 (by decide) (fun h10 => ?_) (fun h10 => ?_)
    · have hf := nz_ite_t hf h10
      refine nz_weak (lv' := [(0, .ref (q 0)), (1, .int _), (2, .int _)]) ⟨rfl, rfl, rfl, trivial⟩ ?_
      exact hK _ _ hf
    · have hf := nz_ite_f hf h10
      refine nz_iconst (pc := 49) (v := 1) E dX8_rows_49 (by decide) ?_
      refine nz_istore_n (pc := 50) (i := 3) E dX8_rows_50 rfl (by decide) rfl ?_
      refine nz_iconst (pc := 51) (v := 0) E dX8_rows_51 (by decide) ?_
      refine nz_istore (pc := 52) (i := 4) E dX8_rows_52 (by decide) rfl ?_
      refine nz_weak (lv' := [(0, .ref (q 0)), (1, .int _), (2, .int _), (3, .int _), (4, .int _)]) ⟨rfl, rfl, rfl, rfl, rfl, trivial⟩ ?_
      refine w_X8_rows_54 _ _ E hR _ _ _ _ _ hf (fun u33 u34 x32 hf => ?_)
      refine nz_aload_n (pc := 125) (i := 0) E dX8_rows_125 rfl rfl ?_
      refine nz_iload_n (pc := 126) (i := 3) E dX8_rows_126 rfl rfl ?_
      refine nz_if_eq (pc := 127) (tgt := 144) E dX8_rows_127 (by decide) (fun h35 => ?_) (fun h35 => ?_)
      · have hf := nz_ite_t hf h35
        refine nz_aload_n (pc := 144) (i := 0) E dX8_rows_144 rfl rfl ?_
        refine nz_getI (pc := 145) (c := 0) (kf := 26) E rfl rfl (nz_upT nz_uX8) (by decide) (List.mem_cons_of_mem _ nz_w702) rfl rfl dX8_rows_145 ?_
        refine nz_putI (pc := 148) (c := 0) (kf := 26) E rfl rfl (nz_upT nz_uX8) (by decide) (List.mem_cons_of_mem _ nz_w702) rfl tyX8 tyX8_ok nmX8 rfl (tyX8_ok 26 (by decide)) rfl dX8_rows_148 ?_
        refine nz_aload_n (pc := 151) (i := 0) E dX8_rows_151 rfl rfl ?_
        refine nz_dup (pc := 152) E dX8_rows_152 rfl ?_
        refine nz_getI (pc := 153) (c := 0) (kf := 25) E rfl rfl (nz_upT nz_uX8) (by decide) (List.mem_cons_of_mem _ nz_w701) rfl rfl dX8_rows_153 ?_
        refine nz_iload_n (pc := 156) (i := 3) E dX8_rows_156 rfl rfl ?_
        refine nz_if_eq (pc := 157) (tgt := 164) E dX8_rows_157 (by decide) (fun h37 => ?_) (fun h37 => ?_)
        · have hf := nz_ite_t hf h37
          refine nz_iconst (pc := 164) (v := 0) E dX8_rows_164 (by decide) ?_
          refine nz_iadd (pc := 165) E dX8_rows_165 ?_
          refine nz_putI (pc := 166) (c := 0) (kf := 25) E rfl rfl (nz_upT nz_uX8) (by decide) (List.mem_cons_of_mem _ nz_w701) rfl tyX8 tyX8_ok nmX8 rfl (tyX8_ok 25 (by decide)) rfl dX8_rows_166 ?_
          refine nz_iinc (pc := 169) (i := 2) (w := 1) E dX8_rows_169 rfl (by decide) (by decide) rfl ?_
          refine nz_goto (pc := 172) (tgt := 43) E dX8_rows_172 (by decide) ?_
          refine nz_weak (lv' := [(0, .ref (q 0)), (1, .int _), (2, .int _)]) ⟨rfl, rfl, rfl, trivial⟩ ?_
          exact ih _ _ _ hf hK
        · have hf := nz_ite_f hf h37
          refine nz_iconst (pc := 160) (v := 1) E dX8_rows_160 (by decide) ?_
          refine nz_goto (pc := 161) (tgt := 165) E dX8_rows_161 (by decide) ?_
          refine nz_iadd (pc := 165) E dX8_rows_165 ?_
          refine nz_putI (pc := 166) (c := 0) (kf := 25) E rfl rfl (nz_upT nz_uX8) (by decide) (List.mem_cons_of_mem _ nz_w701) rfl tyX8 tyX8_ok nmX8 rfl (tyX8_ok 25 (by decide)) rfl dX8_rows_166 ?_
          refine nz_iinc (pc := 169) (i := 2) (w := 1) E dX8_rows_169 rfl (by decide) (by decide) rfl ?_
          refine nz_goto (pc := 172) (tgt := 43) E dX8_rows_172 (by decide) ?_
          refine nz_weak (lv' := [(0, .ref (q 0)), (1, .int _), (2, .int _)]) ⟨rfl, rfl, rfl, trivial⟩ ?_
          exact ih _ _ _ hf hK
      · have hf := nz_ite_f hf h35
        refine nz_aload_n (pc := 130) (i := 0) E dX8_rows_130 rfl rfl ?_
        refine nz_getI (pc := 131) (c := 0) (kf := 25) E rfl rfl (nz_upT nz_uX8) (by decide) (List.mem_cons_of_mem _ nz_w701) rfl rfl dX8_rows_131 ?_
        refine nz_if_ne (pc := 134) (tgt := 144) E dX8_rows_134 (by decide) (fun h42 => ?_) (fun h42 => ?_)
        · have hf := nz_ite_f hf h42
          refine nz_aload_n (pc := 144) (i := 0) E dX8_rows_144 rfl rfl ?_
          refine nz_getI (pc := 145) (c := 0) (kf := 26) E rfl rfl (nz_upT nz_uX8) (by decide) (List.mem_cons_of_mem _ nz_w702) rfl rfl dX8_rows_145 ?_
          refine nz_putI (pc := 148) (c := 0) (kf := 26) E rfl rfl (nz_upT nz_uX8) (by decide) (List.mem_cons_of_mem _ nz_w702) rfl tyX8 tyX8_ok nmX8 rfl (tyX8_ok 26 (by decide)) rfl dX8_rows_148 ?_
          refine nz_aload_n (pc := 151) (i := 0) E dX8_rows_151 rfl rfl ?_
          refine nz_dup (pc := 152) E dX8_rows_152 rfl ?_
          refine nz_getI (pc := 153) (c := 0) (kf := 25) E rfl rfl (nz_upT nz_uX8) (by decide) (List.mem_cons_of_mem _ nz_w701) rfl rfl dX8_rows_153 ?_
          refine nz_iload_n (pc := 156) (i := 3) E dX8_rows_156 rfl rfl ?_
          refine nz_if_eq (pc := 157) (tgt := 164) E dX8_rows_157 (by decide) (fun h44 => ?_) (fun h44 => ?_)
          · have hf := nz_ite_t hf h44
            refine nz_iconst (pc := 164) (v := 0) E dX8_rows_164 (by decide) ?_
            refine nz_iadd (pc := 165) E dX8_rows_165 ?_
            refine nz_putI (pc := 166) (c := 0) (kf := 25) E rfl rfl (nz_upT nz_uX8) (by decide) (List.mem_cons_of_mem _ nz_w701) rfl tyX8 tyX8_ok nmX8 rfl (tyX8_ok 25 (by decide)) rfl dX8_rows_166 ?_
            refine nz_iinc (pc := 169) (i := 2) (w := 1) E dX8_rows_169 rfl (by decide) (by decide) rfl ?_
            refine nz_goto (pc := 172) (tgt := 43) E dX8_rows_172 (by decide) ?_
            refine nz_weak (lv' := [(0, .ref (q 0)), (1, .int _), (2, .int _)]) ⟨rfl, rfl, rfl, trivial⟩ ?_
            exact ih _ _ _ hf hK
          · have hf := nz_ite_f hf h44
            refine nz_iconst (pc := 160) (v := 1) E dX8_rows_160 (by decide) ?_
            refine nz_goto (pc := 161) (tgt := 165) E dX8_rows_161 (by decide) ?_
            refine nz_iadd (pc := 165) E dX8_rows_165 ?_
            refine nz_putI (pc := 166) (c := 0) (kf := 25) E rfl rfl (nz_upT nz_uX8) (by decide) (List.mem_cons_of_mem _ nz_w701) rfl tyX8 tyX8_ok nmX8 rfl (tyX8_ok 25 (by decide)) rfl dX8_rows_166 ?_
            refine nz_iinc (pc := 169) (i := 2) (w := 1) E dX8_rows_169 rfl (by decide) (by decide) rfl ?_
            refine nz_goto (pc := 172) (tgt := 43) E dX8_rows_172 (by decide) ?_
            refine nz_weak (lv' := [(0, .ref (q 0)), (1, .int _), (2, .int _)]) ⟨rfl, rfl, rfl, trivial⟩ ?_
            exact ih _ _ _ hf hK
        · have hf := nz_ite_t hf h42
          refine nz_iload_n (pc := 137) (i := 2) E dX8_rows_137 rfl rfl ?_
          obtain ⟨r49, x50, h51, hf⟩ := nz_bnd_t hf
          refine nz_callSI (pc := 138) (As := [.int _]) E (k_X8_figures   _ _ _ h51) (nz_cwS E nz_w1041 nz_w1042 nz_w67 nz_w1043 ds_X8_figures ⟨Nat.le_of_ble_eq_true rfl, Nat.le_of_ble_eq_true rfl⟩ rfl rfl) rfl rfl (Nat.le_of_ble_eq_true rfl) dX8_rows_138 ?_
          refine nz_goto (pc := 141) (tgt := 148) E dX8_rows_141 (by decide) ?_
          refine nz_putI (pc := 148) (c := 0) (kf := 26) E rfl rfl (nz_upT nz_uX8) (by decide) (List.mem_cons_of_mem _ nz_w702) rfl tyX8 tyX8_ok nmX8 rfl (tyX8_ok 26 (by decide)) rfl dX8_rows_148 ?_
          refine nz_aload_n (pc := 151) (i := 0) E dX8_rows_151 rfl rfl ?_
          refine nz_dup (pc := 152) E dX8_rows_152 rfl ?_
          refine nz_getI (pc := 153) (c := 0) (kf := 25) E rfl rfl (nz_upT nz_uX8) (by decide) (List.mem_cons_of_mem _ nz_w701) rfl rfl dX8_rows_153 ?_
          refine nz_iload_n (pc := 156) (i := 3) E dX8_rows_156 rfl rfl ?_
          refine nz_if_eq (pc := 157) (tgt := 164) E dX8_rows_157 (by decide) (fun h53 => ?_) (fun h53 => ?_)
          · have hf := nz_ite_t hf h53
            refine nz_iconst (pc := 164) (v := 0) E dX8_rows_164 (by decide) ?_
            refine nz_iadd (pc := 165) E dX8_rows_165 ?_
            refine nz_putI (pc := 166) (c := 0) (kf := 25) E rfl rfl (nz_upT nz_uX8) (by decide) (List.mem_cons_of_mem _ nz_w701) rfl tyX8 tyX8_ok nmX8 rfl (tyX8_ok 25 (by decide)) rfl dX8_rows_166 ?_
            refine nz_iinc (pc := 169) (i := 2) (w := 1) E dX8_rows_169 rfl (by decide) (by decide) rfl ?_
            refine nz_goto (pc := 172) (tgt := 43) E dX8_rows_172 (by decide) ?_
            refine nz_weak (lv' := [(0, .ref (q 0)), (1, .int _), (2, .int _)]) ⟨rfl, rfl, rfl, trivial⟩ ?_
            exact ih _ _ _ hf hK
          · have hf := nz_ite_f hf h53
            refine nz_iconst (pc := 160) (v := 1) E dX8_rows_160 (by decide) ?_
            refine nz_goto (pc := 161) (tgt := 165) E dX8_rows_161 (by decide) ?_
            refine nz_iadd (pc := 165) E dX8_rows_165 ?_
            refine nz_putI (pc := 166) (c := 0) (kf := 25) E rfl rfl (nz_upT nz_uX8) (by decide) (List.mem_cons_of_mem _ nz_w701) rfl tyX8 tyX8_ok nmX8 rfl (tyX8_ok 25 (by decide)) rfl dX8_rows_166 ?_
            refine nz_iinc (pc := 169) (i := 2) (w := 1) E dX8_rows_169 rfl (by decide) (by decide) rfl ?_
            refine nz_goto (pc := 172) (tgt := 43) E dX8_rows_172 (by decide) ?_
            refine nz_weak (lv' := [(0, .ref (q 0)), (1, .int _), (2, .int _)]) ⟨rfl, rfl, rfl, trivial⟩ ?_
            exact ih _ _ _ hf hK
set_option maxHeartbeats 4000000 in
set_option maxRecDepth 20000 in
theorem k_X8_rows {l : Launch} {w : nz_O} {q : Nat → Nat} (a0 : Int32) (x : nz_S) (o : Int32 × nz_S) (hf : f_X8_rows a0 x = some o) : nz_MI l yX8_rows (nz_T yX8_rows cX8_rows 5 (some .int)) (nz_R 2 47) w q nz_tM [.ref (q 0), .int a0] x o := by
  refine nz_enterI (by decide) rfl (Nat.le_of_ble_eq_true rfl) rfl rfl ?_
  intro κ E hw hlq hR
  subst hw; subst hlq
  unfold f_X8_rows at hf
  refine nz_weak (lv' := [(0, .ref (q 0)), (1, .int a0)]) ⟨rfl, rfl, trivial⟩ ?_
  refine nz_aload_n (pc := 0) (i := 0) E dX8_rows_0 rfl rfl ?_
  refine nz_iconst (pc := 1) (v := 0) E dX8_rows_1 (by decide) ?_
  refine nz_putI (pc := 2) (c := 0) (kf := 0) E rfl rfl (nz_upT nz_uX8) (by decide) (List.mem_cons_of_mem _ nz_w676) rfl tyX8 tyX8_ok nmX8 rfl (tyX8_ok 0 (by decide)) rfl dX8_rows_2 ?_
  refine nz_iload_n (pc := 5) (i := 1) E dX8_rows_5 rfl rfl ?_
  refine nz_i2l (pc := 6) E dX8_rows_6 ?_
  refine nz_lconst (pc := 7) (v := 0) E dX8_rows_7 (by decide) ?_
  refine nz_lconst (pc := 8) (v := 1) E dX8_rows_8 (by decide) ?_
  obtain ⟨r2, x3, h4, hf⟩ := nz_bnd_t hf
  refine nz_callSI (pc := 9) (As := [.long _, .long _, .long _]) E (k_X8_in   _ _ _ _ _ h4) (nz_cwS E nz_w766 nz_w767 nz_w67 nz_w768 ds_X8_in ⟨Nat.le_of_ble_eq_true rfl, Nat.le_of_ble_eq_true rfl⟩ rfl rfl) rfl rfl (Nat.le_of_ble_eq_true rfl) dX8_rows_9 ?_
  refine nz_if_ne (pc := 12) (tgt := 18) E dX8_rows_12 (by decide) (fun h5 => ?_) (fun h5 => ?_)
  · have hf := nz_ite_f hf h5
    refine nz_aload_n (pc := 18) (i := 0) E dX8_rows_18 rfl rfl ?_
    refine nz_getR (pc := 19) (c := 0) (kf := 5) E rfl rfl (nz_upT nz_uX8) (by decide) (List.mem_cons_of_mem _ nz_w681) rfl rfl dX8_rows_19 ?_
    refine nz_iconst (pc := 22) (v := 0) E dX8_rows_22 (by decide) ?_
    obtain ⟨h6, hf⟩ := nz_chk_t hf
    refine nz_iald (pc := 23) (c := 3) E rfl h6 dX8_rows_23 ?_
    refine nz_if_ne (pc := 24) (tgt := 30) E dX8_rows_24 (by decide) (fun h7 => ?_) (fun h7 => ?_)
    · have hf := nz_ite_f hf h7
      refine nz_aload_n (pc := 30) (i := 0) E dX8_rows_30 rfl rfl ?_
      refine nz_iconst (pc := 31) (v := 0) E dX8_rows_31 (by decide) ?_
      refine nz_putI (pc := 32) (c := 0) (kf := 25) E rfl rfl (nz_upT nz_uX8) (by decide) (List.mem_cons_of_mem _ nz_w701) rfl tyX8 tyX8_ok nmX8 rfl (tyX8_ok 25 (by decide)) rfl dX8_rows_32 ?_
      refine nz_aload_n (pc := 35) (i := 0) E dX8_rows_35 rfl rfl ?_
      refine nz_bipush (pc := 36) (v := -9) E dX8_rows_36 (by decide) ?_
      refine nz_putI (pc := 38) (c := 0) (kf := 26) E rfl rfl (nz_upT nz_uX8) (by decide) (List.mem_cons_of_mem _ nz_w702) rfl tyX8 tyX8_ok nmX8 rfl (tyX8_ok 26 (by decide)) rfl dX8_rows_38 ?_
      refine nz_iconst (pc := 41) (v := 0) E dX8_rows_41 (by decide) ?_
      refine nz_istore_n (pc := 42) (i := 2) E dX8_rows_42 rfl (by decide) rfl ?_
      refine nz_weak (lv' := [(0, .ref (q 0)), (1, .int _), (2, .int _)]) ⟨rfl, rfl, rfl, trivial⟩ ?_
      refine w_X8_rows_43 _ E hR _ _ _ _ hf (fun u59 x58 hf => ?_)
      refine nz_iload_n (pc := 175) (i := 1) E dX8_rows_175 rfl rfl ?_
      refine nz_if_ne (pc := 176) (tgt := 186) E dX8_rows_176 (by decide) (fun h60 => ?_) (fun h60 => ?_)
      · have hf := nz_ite_f hf h60
        refine nz_aload_n (pc := 186) (i := 0) E dX8_rows_186 rfl rfl ?_
        refine nz_getI (pc := 187) (c := 0) (kf := 26) E rfl rfl (nz_upT nz_uX8) (by decide) (List.mem_cons_of_mem _ nz_w702) rfl rfl dX8_rows_187 ?_
        exact nz_iret (pc := 190) E hR rfl hf dX8_rows_190
      · have hf := nz_ite_t hf h60
        refine nz_aload_n (pc := 179) (i := 0) E dX8_rows_179 rfl rfl ?_
        refine nz_getI (pc := 180) (c := 0) (kf := 25) E rfl rfl (nz_upT nz_uX8) (by decide) (List.mem_cons_of_mem _ nz_w701) rfl rfl dX8_rows_180 ?_
        refine nz_goto (pc := 183) (tgt := 190) E dX8_rows_183 (by decide) ?_
        exact nz_iret (pc := 190) E hR rfl hf dX8_rows_190
    · have hf := nz_ite_t hf h7
      refine nz_bipush (pc := 27) (v := -3) E dX8_rows_27 (by decide) ?_
      exact nz_iret (pc := 29) E hR rfl hf dX8_rows_29
  · have hf := nz_ite_t hf h5
    refine nz_bipush (pc := 15) (v := -2) E dX8_rows_15 (by decide) ?_
    exact nz_iret (pc := 17) E hR rfl hf dX8_rows_17
def f_X8_torn_47 (c1 : Int32) (c2 : Int32) (c3 : Int32) (c4 : Int32) : Nat → Int32 → Int32 → nz_S → (Int32 → Int32 → nz_S → Option (Int32 × nz_S)) → Option (Int32 × nz_S)
  | 0, _, _, _, _ => none
  | fu + 1, w5, w6, x, K =>
  if ((1 : Int32) <<< (c4 &&& 31)) ≤ w6 then
    K w5 w6 x
  else
    nz_bnd (f_X8_keepArcs  c1 w6 x) fun r14 x15 =>
    nz_bnd (f_X8_find 4  x15) fun r17 x18 =>
    nz_bnd (f_X8_many  w6 x18) fun r20 x21 =>
    nz_bnd (f_X8_isTame 4  x21) fun r23 x24 =>
    if r23 = (0 : Int32) then
      let v27 : Int32 := (w5 + (0 : Int32))
      let v28 : Int32 := w6 + 1
      f_X8_torn_47 c1 c2 c3 c4 fu v27 v28 x24 K
    else
      nz_bnd (f_X8_power  ((10 : Int32) - c2) r20 x24) fun r29 x30 =>
      nz_bnd (f_X8_power  c2 (c4 - r20) x30) fun r32 x33 =>
      let v35 : Int32 := (w5 + (r29 * r32))
      let v36 : Int32 := w6 + 1
      f_X8_torn_47 c1 c2 c3 c4 fu v35 v36 x33 K
def f_X8_torn (a0 : Int32) (a1 : Int32) (a2 : Int32) (x : nz_S) : Option (Int32 × nz_S) :=
  let x1 : nz_S := nz_put x 0 0 (0 : Int32)
  nz_bnd (f_X8_noBlock  a0 x1) fun r2 x3 =>
  if r2 = (0 : Int32) then
    nz_bnd (f_X8_in  (a1).toInt64 (0 : Int64) (10 : Int64) x3) fun r6 x7 =>
    if r6 = (0 : Int32) then
      some ((-2 : Int32), x7)
    else
      let v10 : Int32 := ((13 : Int32) + a0)
      nz_chk (nz_in v10 61) <|
      let v12 : Int32 := (x7.1 3 (v10).toNatClampNeg)
      f_X8_torn_47 a0 a1 a2 v12 nz_F (0 : Int32) (0 : Int32) x7 fun u38 u39 x37 =>
        nz_bnd (f_X8_power  (10 : Int32) v12 x37) fun r40 x41 =>
        nz_bnd (f_X8_fraction  u38 r40 a2 x41) fun r43 x44 =>
        some (r43, x44)
  else
    some ((-1 : Int32), x3)
theorem ds_X8_torn : nz_dsc yX8_torn 3 := by unfold nz_dsc; decide +kernel
set_option maxHeartbeats 4000000 in
set_option maxRecDepth 20000 in
theorem w_X8_torn_47 {κ : nz_C} {q : Nat → Nat} {o : Int32 × nz_S} (c1 : Int32) (c2 : Int32) (c3 : Int32) (c4 : Int32) (E : nz_Env κ q nz_tM 8 cX8_torn RX8 (nz_T yX8_torn cX8_torn 8 (some .int)) (nz_R 5 124)) (hR : nz_RI κ q nz_tM .int o) : ∀ (fu : Nat) (w5 : Int32) (w6 : Int32) (x : nz_S) (K : Int32 → Int32 → nz_S → Option (Int32 × nz_S)), f_X8_torn_47 c1 c2 c3 c4 fu w5 w6 x K = some o → (∀ (w5 : Int32) (w6 : Int32) (x : nz_S), K w5 w6 x = some o → nz_St κ q nz_tM 8 123 [(0, .ref (q 0)), (1, .int c1), (2, .int c2), (3, .int c3), (4, .int c4), (5, .int w5), (6, .int w6)] [] x) → nz_St κ q nz_tM 8 47 [(0, .ref (q 0)), (1, .int c1), (2, .int c2), (3, .int c3), (4, .int c4), (5, .int w5), (6, .int w6)] [] x := by
  intro fu
  induction fu with
  | zero => intro w5 w6 x K hf; rw [f_X8_torn_47] at hf; cases hf
  | succ fu ih =>
    intro w5 w6 x K hf hK
    rw [f_X8_torn_47] at hf
    refine nz_iload (pc := 47) (i := 6) E dX8_torn_47 rfl ?_
    refine nz_iconst (pc := 49) (v := 1) E dX8_torn_49 (by decide) ?_
    refine nz_iload (pc := 50) (i := 4) E dX8_torn_50 rfl ?_
    refine nz_ishl (pc := 52) E dX8_torn_52 ?_
    refine nz_icmp_ge (pc := 53) (tgt := 123) E dX8_torn_53 (by decide) (fun h13 => ?_) (fun h13 => ?_)
    · have hf := nz_ite_t hf h13
      refine nz_weak (lv' := [(0, .ref (q 0)), (1, .int _), (2, .int _), (3, .int _), (4, .int _), (5, .int _), (6, .int _)]) ⟨rfl, rfl, rfl, rfl, rfl, rfl, rfl, trivial⟩ ?_
      exact hK _ _ _ hf
    · have hf := nz_ite_f hf h13
      refine nz_aload_n (pc := 56) (i := 0) E dX8_torn_56 rfl rfl ?_
      refine nz_iload_n (pc := 57) (i := 1) E dX8_torn_57 rfl rfl ?_
      refine nz_iload (pc := 58) (i := 6) E dX8_torn_58 rfl ?_
      obtain ⟨r14, x15, h16, hf⟩ := nz_bnd_t hf
      refine nz_callVV (pc := 60) (c0 := 0) (As := [.int _, .int _]) E rfl rfl (k_X8_keepArcs   _ _ _ _ h16) (nz_cwV E nz_w1009 nz_w1011 nz_w55 nz_w67 nz_w1012 ds_X8_keepArcs ⟨Nat.le_of_ble_eq_true rfl, Nat.le_of_ble_eq_true rfl⟩ rfl rfl) rfl rfl (Nat.le_of_ble_eq_true rfl) dX8_torn_60 ?_
      refine nz_aload_n (pc := 63) (i := 0) E dX8_torn_63 rfl rfl ?_
      refine nz_aload_n (pc := 64) (i := 0) E dX8_torn_64 rfl rfl ?_
      refine nz_getR (pc := 65) (c := 0) (kf := 6) E rfl rfl (nz_upT nz_uX8) (by decide) (List.mem_cons_of_mem _ nz_w682) rfl rfl dX8_torn_65 ?_
      obtain ⟨r17, x18, h19, hf⟩ := nz_bnd_t hf
      refine nz_callVV (pc := 68) (c0 := 0) (As := [.ref (q 4)]) E rfl rfl (k_X8_find 4 nz_p4 _ _ h19) (nz_cwV E nz_w800 nz_w802 nz_w24 nz_w67 nz_w803 ds_X8_find ⟨Nat.le_of_ble_eq_true rfl, Nat.le_of_ble_eq_true rfl⟩ rfl rfl) rfl rfl (Nat.le_of_ble_eq_true rfl) dX8_torn_68 ?_
      refine nz_iload (pc := 71) (i := 6) E dX8_torn_71 rfl ?_
      obtain ⟨r20, x21, h22, hf⟩ := nz_bnd_t hf
      refine nz_callSI (pc := 73) (As := [.int _]) E (k_X8_many   _ _ _ h22) (nz_cwS E nz_w1013 nz_w1014 nz_w67 nz_w1015 ds_X8_many ⟨Nat.le_of_ble_eq_true rfl, Nat.le_of_ble_eq_true rfl⟩ rfl rfl) rfl rfl (Nat.le_of_ble_eq_true rfl) dX8_torn_73 ?_
      refine nz_istore (pc := 76) (i := 7) E dX8_torn_76 (by decide) rfl ?_
      refine nz_iload (pc := 78) (i := 5) E dX8_torn_78 rfl ?_
      refine nz_aload_n (pc := 80) (i := 0) E dX8_torn_80 rfl rfl ?_
      refine nz_aload_n (pc := 81) (i := 0) E dX8_torn_81 rfl rfl ?_
      refine nz_getR (pc := 82) (c := 0) (kf := 6) E rfl rfl (nz_upT nz_uX8) (by decide) (List.mem_cons_of_mem _ nz_w682) rfl rfl dX8_torn_82 ?_
      obtain ⟨r23, x24, h25, hf⟩ := nz_bnd_t hf
      refine nz_callVI (pc := 85) (c0 := 0) (As := [.ref (q 4)]) E rfl rfl (k_X8_isTame 4 nz_p4 _ _ h25) (nz_cwV E nz_w857 nz_w859 nz_w36 nz_w67 nz_w860 ds_X8_isTame ⟨Nat.le_of_ble_eq_true rfl, Nat.le_of_ble_eq_true rfl⟩ rfl rfl) rfl rfl (Nat.le_of_ble_eq_true rfl) dX8_torn_85 ?_
      refine nz_if_eq (pc := 88) (tgt := 113) E dX8_torn_88 (by decide) (fun h26 => ?_) (fun h26 => ?_)
      · have hf := nz_ite_t hf h26
        refine nz_iconst (pc := 113) (v := 0) E dX8_torn_113 (by decide) ?_
        refine nz_iadd (pc := 114) E dX8_torn_114 ?_
        refine nz_istore (pc := 115) (i := 5) E dX8_torn_115 (by decide) rfl ?_
        refine nz_iinc (pc := 117) (i := 6) (w := 1) E dX8_torn_117 rfl (by decide) (by decide) rfl ?_
        refine nz_goto (pc := 120) (tgt := 47) E dX8_torn_120 (by decide) ?_
        refine nz_weak (lv' := [(0, .ref (q 0)), (1, .int _), (2, .int _), (3, .int _), (4, .int _), (5, .int _), (6, .int _)]) ⟨rfl, rfl, rfl, rfl, rfl, rfl, rfl, trivial⟩ ?_
        exact ih _ _ _ _ hf hK
      · have hf := nz_ite_f hf h26
        refine nz_bipush (pc := 91) (v := 10) E dX8_torn_91 (by decide) ?_
        refine nz_iload_n (pc := 93) (i := 2) E dX8_torn_93 rfl rfl ?_
        refine nz_isub (pc := 94) E dX8_torn_94 ?_
        refine nz_iload (pc := 95) (i := 7) E dX8_torn_95 rfl ?_
        obtain ⟨r29, x30, h31, hf⟩ := nz_bnd_t hf
        refine nz_callSI (pc := 97) (As := [.int _, .int _]) E (k_X8_power   _ _ _ _ h31) (nz_cwS E nz_w956 nz_w957 nz_w67 nz_w958 ds_X8_power ⟨Nat.le_of_ble_eq_true rfl, Nat.le_of_ble_eq_true rfl⟩ rfl rfl) rfl rfl (Nat.le_of_ble_eq_true rfl) dX8_torn_97 ?_
        refine nz_iload_n (pc := 100) (i := 2) E dX8_torn_100 rfl rfl ?_
        refine nz_iload (pc := 101) (i := 4) E dX8_torn_101 rfl ?_
        refine nz_iload (pc := 103) (i := 7) E dX8_torn_103 rfl ?_
        refine nz_isub (pc := 105) E dX8_torn_105 ?_
        obtain ⟨r32, x33, h34, hf⟩ := nz_bnd_t hf
        refine nz_callSI (pc := 106) (As := [.int _, .int _]) E (k_X8_power   _ _ _ _ h34) (nz_cwS E nz_w956 nz_w957 nz_w67 nz_w958 ds_X8_power ⟨Nat.le_of_ble_eq_true rfl, Nat.le_of_ble_eq_true rfl⟩ rfl rfl) rfl rfl (Nat.le_of_ble_eq_true rfl) dX8_torn_106 ?_
        refine nz_imul (pc := 109) E dX8_torn_109 ?_
        refine nz_goto (pc := 110) (tgt := 114) E dX8_torn_110 (by decide) ?_
        refine nz_iadd (pc := 114) E dX8_torn_114 ?_
        refine nz_istore (pc := 115) (i := 5) E dX8_torn_115 (by decide) rfl ?_
        refine nz_iinc (pc := 117) (i := 6) (w := 1) E dX8_torn_117 rfl (by decide) (by decide) rfl ?_
        refine nz_goto (pc := 120) (tgt := 47) E dX8_torn_120 (by decide) ?_
        refine nz_weak (lv' := [(0, .ref (q 0)), (1, .int _), (2, .int _), (3, .int _), (4, .int _), (5, .int _), (6, .int _)]) ⟨rfl, rfl, rfl, rfl, rfl, rfl, rfl, trivial⟩ ?_
        exact ih _ _ _ _ hf hK
set_option maxHeartbeats 4000000 in
set_option maxRecDepth 20000 in
theorem k_X8_torn {l : Launch} {w : nz_O} {q : Nat → Nat} (a0 : Int32) (a1 : Int32) (a2 : Int32) (x : nz_S) (o : Int32 × nz_S) (hf : f_X8_torn a0 a1 a2 x = some o) : nz_MI l yX8_torn (nz_T yX8_torn cX8_torn 8 (some .int)) (nz_R 5 124) w q nz_tM [.ref (q 0), .int a0, .int a1, .int a2] x o := by
  refine nz_enterI (by decide) rfl (Nat.le_of_ble_eq_true rfl) rfl rfl ?_
  intro κ E hw hlq hR
  subst hw; subst hlq
  unfold f_X8_torn at hf
  refine nz_weak (lv' := [(0, .ref (q 0)), (1, .int a0), (2, .int a1), (3, .int a2)]) ⟨rfl, rfl, rfl, rfl, trivial⟩ ?_
  refine nz_aload_n (pc := 0) (i := 0) E dX8_torn_0 rfl rfl ?_
  refine nz_iconst (pc := 1) (v := 0) E dX8_torn_1 (by decide) ?_
  refine nz_putI (pc := 2) (c := 0) (kf := 0) E rfl rfl (nz_upT nz_uX8) (by decide) (List.mem_cons_of_mem _ nz_w676) rfl tyX8 tyX8_ok nmX8 rfl (tyX8_ok 0 (by decide)) rfl dX8_torn_2 ?_
  refine nz_aload_n (pc := 5) (i := 0) E dX8_torn_5 rfl rfl ?_
  refine nz_iload_n (pc := 6) (i := 1) E dX8_torn_6 rfl rfl ?_
  obtain ⟨r2, x3, h4, hf⟩ := nz_bnd_t hf
  refine nz_callVI (pc := 7) (c0 := 0) (As := [.int _]) E rfl rfl (k_X8_noBlock   _ _ _ h4) (nz_cwV E nz_w875 nz_w877 nz_w38 nz_w67 nz_w878 ds_X8_noBlock ⟨Nat.le_of_ble_eq_true rfl, Nat.le_of_ble_eq_true rfl⟩ rfl rfl) rfl rfl (Nat.le_of_ble_eq_true rfl) dX8_torn_7 ?_
  refine nz_if_eq (pc := 10) (tgt := 15) E dX8_torn_10 (by decide) (fun h5 => ?_) (fun h5 => ?_)
  · have hf := nz_ite_t hf h5
    refine nz_iload_n (pc := 15) (i := 2) E dX8_torn_15 rfl rfl ?_
    refine nz_i2l (pc := 16) E dX8_torn_16 ?_
    refine nz_lconst (pc := 17) (v := 0) E dX8_torn_17 (by decide) ?_
    refine nz_ldc2 (pc := 18) E (List.mem_cons_of_mem _ nz_w1048) dX8_torn_18 ?_
    obtain ⟨r6, x7, h8, hf⟩ := nz_bnd_t hf
    refine nz_callSI (pc := 21) (As := [.long _, .long _, .long _]) E (k_X8_in   _ _ _ _ _ h8) (nz_cwS E nz_w766 nz_w767 nz_w67 nz_w768 ds_X8_in ⟨Nat.le_of_ble_eq_true rfl, Nat.le_of_ble_eq_true rfl⟩ rfl rfl) rfl rfl (Nat.le_of_ble_eq_true rfl) dX8_torn_21 ?_
    refine nz_if_ne (pc := 24) (tgt := 30) E dX8_torn_24 (by decide) (fun h9 => ?_) (fun h9 => ?_)
    · have hf := nz_ite_f hf h9
      refine nz_aload_n (pc := 30) (i := 0) E dX8_torn_30 rfl rfl ?_
      refine nz_getR (pc := 31) (c := 0) (kf := 5) E rfl rfl (nz_upT nz_uX8) (by decide) (List.mem_cons_of_mem _ nz_w681) rfl rfl dX8_torn_31 ?_
      refine nz_bipush (pc := 34) (v := 13) E dX8_torn_34 (by decide) ?_
      refine nz_iload_n (pc := 36) (i := 1) E dX8_torn_36 rfl rfl ?_
      refine nz_iadd (pc := 37) E dX8_torn_37 ?_
      obtain ⟨h11, hf⟩ := nz_chk_t hf
      refine nz_iald (pc := 38) (c := 3) E rfl h11 dX8_torn_38 ?_
      refine nz_istore (pc := 39) (i := 4) E dX8_torn_39 (by decide) rfl ?_
      refine nz_iconst (pc := 41) (v := 0) E dX8_torn_41 (by decide) ?_
      refine nz_istore (pc := 42) (i := 5) E dX8_torn_42 (by decide) rfl ?_
      refine nz_iconst (pc := 44) (v := 0) E dX8_torn_44 (by decide) ?_
      refine nz_istore (pc := 45) (i := 6) E dX8_torn_45 (by decide) rfl ?_
      refine nz_weak (lv' := [(0, .ref (q 0)), (1, .int _), (2, .int _), (3, .int _), (4, .int _), (5, .int _), (6, .int _)]) ⟨rfl, rfl, rfl, rfl, rfl, rfl, rfl, trivial⟩ ?_
      refine w_X8_torn_47 _ _ _ _ E hR _ _ _ _ _ hf (fun u38 u39 x37 hf => ?_)
      refine nz_iload (pc := 123) (i := 5) E dX8_torn_123 rfl ?_
      refine nz_bipush (pc := 125) (v := 10) E dX8_torn_125 (by decide) ?_
      refine nz_iload (pc := 127) (i := 4) E dX8_torn_127 rfl ?_
      obtain ⟨r40, x41, h42, hf⟩ := nz_bnd_t hf
      refine nz_callSI (pc := 129) (As := [.int _, .int _]) E (k_X8_power   _ _ _ _ h42) (nz_cwS E nz_w956 nz_w957 nz_w67 nz_w958 ds_X8_power ⟨Nat.le_of_ble_eq_true rfl, Nat.le_of_ble_eq_true rfl⟩ rfl rfl) rfl rfl (Nat.le_of_ble_eq_true rfl) dX8_torn_129 ?_
      refine nz_iload_n (pc := 132) (i := 3) E dX8_torn_132 rfl rfl ?_
      obtain ⟨r43, x44, h45, hf⟩ := nz_bnd_t hf
      refine nz_callSI (pc := 133) (As := [.int _, .int _, .int _]) E (k_X8_fraction   _ _ _ _ _ h45) (nz_cwS E nz_w1019 nz_w1020 nz_w67 nz_w1021 ds_X8_fraction ⟨Nat.le_of_ble_eq_true rfl, Nat.le_of_ble_eq_true rfl⟩ rfl rfl) rfl rfl (Nat.le_of_ble_eq_true rfl) dX8_torn_133 ?_
      exact nz_iret (pc := 136) E hR rfl hf dX8_torn_136
    · have hf := nz_ite_t hf h9
      refine nz_bipush (pc := 27) (v := -2) E dX8_torn_27 (by decide) ?_
      exact nz_iret (pc := 29) E hR rfl hf dX8_torn_29
  · have hf := nz_ite_f hf h5
    refine nz_iconst (pc := 13) (v := -1) E dX8_torn_13 (by decide) ?_
    exact nz_iret (pc := 14) E hR rfl hf dX8_torn_14
def f_X8_seed (a0 : Int64) (x : nz_S) : Option (Int64 × nz_S) :=
  let x1 : nz_S := nz_put x 0 0 (0 : Int32)
  let v2 : Int64 := x1.2
  let x3 : nz_S := nz_lng x1 a0
  some (v2, x3)
theorem ds_X8_seed : nz_dsc yX8_seed 1 := by unfold nz_dsc; decide +kernel
set_option maxHeartbeats 4000000 in
set_option maxRecDepth 20000 in
theorem k_X8_seed {l : Launch} {w : nz_O} {q : Nat → Nat} (a0 : Int64) (x : nz_S) (o : Int64 × nz_S) (hf : f_X8_seed a0 x = some o) : nz_ML l yX8_seed (nz_T yX8_seed cX8_seed 5 (some .long)) (nz_R 0 0) w q nz_tM [.ref (q 0), .long a0] x o := by
  refine nz_enterL (by decide) rfl (Nat.le_of_ble_eq_true rfl) rfl rfl ?_
  intro κ E hw hlq hR
  subst hw; subst hlq
  unfold f_X8_seed at hf
  refine nz_weak (lv' := [(0, .ref (q 0)), (1, .long a0)]) ⟨rfl, rfl, trivial⟩ ?_
  refine nz_aload_n (pc := 0) (i := 0) E dX8_seed_0 rfl rfl ?_
  refine nz_iconst (pc := 1) (v := 0) E dX8_seed_1 (by decide) ?_
  refine nz_putI (pc := 2) (c := 0) (kf := 0) E rfl rfl (nz_upT nz_uX8) (by decide) (List.mem_cons_of_mem _ nz_w676) rfl tyX8 tyX8_ok nmX8 rfl (tyX8_ok 0 (by decide)) rfl dX8_seed_2 ?_
  refine nz_aload_n (pc := 5) (i := 0) E dX8_seed_5 rfl rfl ?_
  refine nz_getL (pc := 6) (c := 0) (kf := 15) E rfl rfl (nz_upT nz_uX8) (by decide) (List.mem_cons_of_mem _ nz_w691) rfl rfl dX8_seed_6 ?_
  refine nz_lstore_n (pc := 9) (i := 3) E dX8_seed_9 rfl (by decide) rfl rfl ?_
  refine nz_aload_n (pc := 10) (i := 0) E dX8_seed_10 rfl rfl ?_
  refine nz_lload_n (pc := 11) (i := 1) E dX8_seed_11 rfl rfl ?_
  refine nz_putL (pc := 12) (c := 0) (kf := 15) E rfl rfl (nz_upT nz_uX8) (by decide) (List.mem_cons_of_mem _ nz_w691) rfl tyX8 tyX8_ok nmX8 rfl (tyX8_ok 15 (by decide)) rfl (nz_oneX8) (by decide +kernel) dX8_seed_12 ?_
  refine nz_lload_n (pc := 15) (i := 3) E dX8_seed_15 rfl rfl ?_
  exact nz_lret (pc := 16) E hR hf dX8_seed_16
def f_X8_drawn_28 (c1 : Int32) : Nat → Int32 → Int32 → nz_S → (Int32 → Int32 → nz_S → Option (Int32 × nz_S)) → Option (Int32 × nz_S)
  | 0, _, _, _, _ => none
  | fu + 1, w2, w3, x, K =>
  if c1 ≤ w3 then
    K w2 w3 x
  else
    let x10 : nz_S := nz_lng x ((x.2 * (6364136223846793005 : Int64)) + (1442695040888963407 : Int64))
    let v11 : Int32 := (((x10.2).toUInt64 >>> (((33 : Int32)).toInt64.toUInt64 &&& Int64.toUInt64 63)).toInt64).toInt32
    let v12 : Int32 := (v11 / (64 : Int32))
    if (3 : Int32) ≤ (v12 - v12 / (4 : Int32) * (4 : Int32)) then
      nz_bnd (f_X8_cuts  (v11 - v11 / (8 : Int32) * (8 : Int32)) (0 : Int32) x10) fun r14 x15 =>
      nz_bnd (f_X8_find 4  x15) fun r17 x18 =>
      nz_bnd (f_X8_kinds  (1 : Int32) x18) fun r20 x21 =>
      let v23 : Int32 := (w2 + r20)
      let v24 : Int32 := w3 + 1
      f_X8_drawn_28 c1 fu v23 v24 x21 K
    else
      let v25 : Int32 := (v11 / (8 : Int32))
      nz_bnd (f_X8_adds  (v11 - v11 / (8 : Int32) * (8 : Int32)) (v25 - v25 / (8 : Int32) * (8 : Int32)) x10) fun r26 x27 =>
      nz_bnd (f_X8_find 4  x27) fun r29 x30 =>
      nz_bnd (f_X8_kinds  (1 : Int32) x30) fun r32 x33 =>
      let v35 : Int32 := (w2 + r32)
      let v36 : Int32 := w3 + 1
      f_X8_drawn_28 c1 fu v35 v36 x33 K
def f_X8_drawn (a0 : Int32) (x : nz_S) : Option (Int32 × nz_S) :=
  let x1 : nz_S := nz_put x 0 0 (0 : Int32)
  nz_bnd (f_X8_in  (a0).toInt64 (1 : Int64) (20 : Int64) x1) fun r2 x3 =>
  if r2 = (0 : Int32) then
    some ((-2 : Int32), x3)
  else
    nz_bnd (f_X8_begin   x3) fun r6 x7 =>
    f_X8_drawn_28 a0 nz_F (0 : Int32) (0 : Int32) x7 fun u38 u39 x37 =>
      some (u38, x37)
theorem ds_X8_drawn : nz_dsc yX8_drawn 1 := by unfold nz_dsc; decide +kernel
set_option maxHeartbeats 4000000 in
set_option maxRecDepth 20000 in
theorem w_X8_drawn_28 {κ : nz_C} {q : Nat → Nat} {o : Int32 × nz_S} (c1 : Int32) (E : nz_Env κ q nz_tM 5 cX8_drawn RX8 (nz_T yX8_drawn cX8_drawn 5 (some .int)) (nz_R 5 124)) (hR : nz_RI κ q nz_tM .int o) : ∀ (fu : Nat) (w2 : Int32) (w3 : Int32) (x : nz_S) (K : Int32 → Int32 → nz_S → Option (Int32 × nz_S)), f_X8_drawn_28 c1 fu w2 w3 x K = some o → (∀ (w2 : Int32) (w3 : Int32) (x : nz_S), K w2 w3 x = some o → nz_St κ q nz_tM 5 124 [(0, .ref (q 0)), (1, .int c1), (2, .int w2), (3, .int w3)] [] x) → nz_St κ q nz_tM 5 28 [(0, .ref (q 0)), (1, .int c1), (2, .int w2), (3, .int w3)] [] x := by
  intro fu
  induction fu with
  | zero => intro w2 w3 x K hf; rw [f_X8_drawn_28] at hf; cases hf
  | succ fu ih =>
    intro w2 w3 x K hf hK
    rw [f_X8_drawn_28] at hf
    refine nz_iload_n (pc := 28) (i := 3) E dX8_drawn_28 rfl rfl ?_
    refine nz_iload_n (pc := 29) (i := 1) E dX8_drawn_29 rfl rfl ?_
    refine nz_icmp_ge (pc := 30) (tgt := 124) E dX8_drawn_30 (by decide) (fun h9 => ?_) (fun h9 => ?_)
    · have hf := nz_ite_t hf h9
      refine nz_weak (lv' := [(0, .ref (q 0)), (1, .int _), (2, .int _), (3, .int _)]) ⟨rfl, rfl, rfl, rfl, trivial⟩ ?_
      exact hK _ _ _ hf
    · have hf := nz_ite_f hf h9
      refine nz_aload_n (pc := 33) (i := 0) E dX8_drawn_33 rfl rfl ?_
      refine nz_aload_n (pc := 34) (i := 0) E dX8_drawn_34 rfl rfl ?_
      refine nz_getL (pc := 35) (c := 0) (kf := 15) E rfl rfl (nz_upT nz_uX8) (by decide) (List.mem_cons_of_mem _ nz_w691) rfl rfl dX8_drawn_35 ?_
      refine nz_ldc2 (pc := 38) E (List.mem_cons_of_mem _ nz_w1058) dX8_drawn_38 ?_
      refine nz_lmul (pc := 41) E dX8_drawn_41 ?_
      refine nz_ldc2 (pc := 42) E (List.mem_cons_of_mem _ nz_w1059) dX8_drawn_42 ?_
      refine nz_ladd (pc := 45) E dX8_drawn_45 ?_
      refine nz_putL (pc := 46) (c := 0) (kf := 15) E rfl rfl (nz_upT nz_uX8) (by decide) (List.mem_cons_of_mem _ nz_w691) rfl tyX8 tyX8_ok nmX8 rfl (tyX8_ok 15 (by decide)) rfl (nz_oneX8) (by decide +kernel) dX8_drawn_46 ?_
      refine nz_aload_n (pc := 49) (i := 0) E dX8_drawn_49 rfl rfl ?_
      refine nz_getL (pc := 50) (c := 0) (kf := 15) E rfl rfl (nz_upT nz_uX8) (by decide) (List.mem_cons_of_mem _ nz_w691) rfl rfl dX8_drawn_50 ?_
      refine nz_bipush (pc := 53) (v := 33) E dX8_drawn_53 (by decide) ?_
      refine nz_lushr (pc := 55) E dX8_drawn_55 ?_
      refine nz_l2i (pc := 56) E dX8_drawn_56 ?_
      refine nz_istore (pc := 57) (i := 4) E dX8_drawn_57 (by decide) rfl ?_
      refine nz_iload (pc := 59) (i := 4) E dX8_drawn_59 rfl ?_
      refine nz_bipush (pc := 61) (v := 64) E dX8_drawn_61 (by decide) ?_
      refine nz_idiv (pc := 63) E dX8_drawn_63 (by decide) ?_
      refine nz_iconst (pc := 64) (v := 4) E dX8_drawn_64 (by decide) ?_
      refine nz_irem (pc := 65) E dX8_drawn_65 (by decide) ?_
      refine nz_iconst (pc := 66) (v := 3) E dX8_drawn_66 (by decide) ?_
      refine nz_icmp_ge (pc := 67) (tgt := 91) E dX8_drawn_67 (by decide) (fun h13 => ?_) (fun h13 => ?_)
      · have hf := nz_ite_t hf h13
        refine nz_aload_n (pc := 91) (i := 0) E dX8_drawn_91 rfl rfl ?_
        refine nz_iload (pc := 92) (i := 4) E dX8_drawn_92 rfl ?_
        refine nz_bipush (pc := 94) (v := 8) E dX8_drawn_94 (by decide) ?_
        refine nz_irem (pc := 96) E dX8_drawn_96 (by decide) ?_
        refine nz_iconst (pc := 97) (v := 0) E dX8_drawn_97 (by decide) ?_
        obtain ⟨r14, x15, h16, hf⟩ := nz_bnd_t hf
        refine nz_callVI (pc := 98) (c0 := 0) (As := [.int _, .int _]) E rfl rfl (k_X8_cuts   _ _ _ _ h16) (nz_cwV E nz_w993 nz_w995 nz_w52 nz_w67 nz_w996 ds_X8_cuts ⟨Nat.le_of_ble_eq_true rfl, Nat.le_of_ble_eq_true rfl⟩ rfl rfl) rfl rfl (Nat.le_of_ble_eq_true rfl) dX8_drawn_98 ?_
        refine nz_pop (pc := 101) E dX8_drawn_101 rfl ?_
        refine nz_aload_n (pc := 102) (i := 0) E dX8_drawn_102 rfl rfl ?_
        refine nz_aload_n (pc := 103) (i := 0) E dX8_drawn_103 rfl rfl ?_
        refine nz_getR (pc := 104) (c := 0) (kf := 6) E rfl rfl (nz_upT nz_uX8) (by decide) (List.mem_cons_of_mem _ nz_w682) rfl rfl dX8_drawn_104 ?_
        obtain ⟨r17, x18, h19, hf⟩ := nz_bnd_t hf
        refine nz_callVV (pc := 107) (c0 := 0) (As := [.ref (q 4)]) E rfl rfl (k_X8_find 4 nz_p4 _ _ h19) (nz_cwV E nz_w800 nz_w802 nz_w24 nz_w67 nz_w803 ds_X8_find ⟨Nat.le_of_ble_eq_true rfl, Nat.le_of_ble_eq_true rfl⟩ rfl rfl) rfl rfl (Nat.le_of_ble_eq_true rfl) dX8_drawn_107 ?_
        refine nz_iload_n (pc := 110) (i := 2) E dX8_drawn_110 rfl rfl ?_
        refine nz_aload_n (pc := 111) (i := 0) E dX8_drawn_111 rfl rfl ?_
        refine nz_iconst (pc := 112) (v := 1) E dX8_drawn_112 (by decide) ?_
        obtain ⟨r20, x21, h22, hf⟩ := nz_bnd_t hf
        refine nz_callVI (pc := 113) (c0 := 0) (As := [.int _]) E rfl rfl (k_X8_kinds   _ _ _ h22) (nz_cwV E nz_w845 nz_w847 nz_w33 nz_w67 nz_w848 ds_X8_kinds ⟨Nat.le_of_ble_eq_true rfl, Nat.le_of_ble_eq_true rfl⟩ rfl rfl) rfl rfl (Nat.le_of_ble_eq_true rfl) dX8_drawn_113 ?_
        refine nz_iadd (pc := 116) E dX8_drawn_116 ?_
        refine nz_istore_n (pc := 117) (i := 2) E dX8_drawn_117 rfl (by decide) rfl ?_
        refine nz_iinc (pc := 118) (i := 3) (w := 1) E dX8_drawn_118 rfl (by decide) (by decide) rfl ?_
        refine nz_goto (pc := 121) (tgt := 28) E dX8_drawn_121 (by decide) ?_
        refine nz_weak (lv' := [(0, .ref (q 0)), (1, .int _), (2, .int _), (3, .int _)]) ⟨rfl, rfl, rfl, rfl, trivial⟩ ?_
        exact ih _ _ _ _ hf hK
      · have hf := nz_ite_f hf h13
        refine nz_aload_n (pc := 70) (i := 0) E dX8_drawn_70 rfl rfl ?_
        refine nz_iload (pc := 71) (i := 4) E dX8_drawn_71 rfl ?_
        refine nz_bipush (pc := 73) (v := 8) E dX8_drawn_73 (by decide) ?_
        refine nz_irem (pc := 75) E dX8_drawn_75 (by decide) ?_
        refine nz_iload (pc := 76) (i := 4) E dX8_drawn_76 rfl ?_
        refine nz_bipush (pc := 78) (v := 8) E dX8_drawn_78 (by decide) ?_
        refine nz_idiv (pc := 80) E dX8_drawn_80 (by decide) ?_
        refine nz_bipush (pc := 81) (v := 8) E dX8_drawn_81 (by decide) ?_
        refine nz_irem (pc := 83) E dX8_drawn_83 (by decide) ?_
        obtain ⟨r26, x27, h28, hf⟩ := nz_bnd_t hf
        refine nz_callVI (pc := 84) (c0 := 0) (As := [.int _, .int _]) E rfl rfl (k_X8_adds   _ _ _ _ h28) (nz_cwV E nz_w989 nz_w991 nz_w51 nz_w67 nz_w992 ds_X8_adds ⟨Nat.le_of_ble_eq_true rfl, Nat.le_of_ble_eq_true rfl⟩ rfl rfl) rfl rfl (Nat.le_of_ble_eq_true rfl) dX8_drawn_84 ?_
        refine nz_pop (pc := 87) E dX8_drawn_87 rfl ?_
        refine nz_goto (pc := 88) (tgt := 102) E dX8_drawn_88 (by decide) ?_
        refine nz_aload_n (pc := 102) (i := 0) E dX8_drawn_102 rfl rfl ?_
        refine nz_aload_n (pc := 103) (i := 0) E dX8_drawn_103 rfl rfl ?_
        refine nz_getR (pc := 104) (c := 0) (kf := 6) E rfl rfl (nz_upT nz_uX8) (by decide) (List.mem_cons_of_mem _ nz_w682) rfl rfl dX8_drawn_104 ?_
        obtain ⟨r29, x30, h31, hf⟩ := nz_bnd_t hf
        refine nz_callVV (pc := 107) (c0 := 0) (As := [.ref (q 4)]) E rfl rfl (k_X8_find 4 nz_p4 _ _ h31) (nz_cwV E nz_w800 nz_w802 nz_w24 nz_w67 nz_w803 ds_X8_find ⟨Nat.le_of_ble_eq_true rfl, Nat.le_of_ble_eq_true rfl⟩ rfl rfl) rfl rfl (Nat.le_of_ble_eq_true rfl) dX8_drawn_107 ?_
        refine nz_iload_n (pc := 110) (i := 2) E dX8_drawn_110 rfl rfl ?_
        refine nz_aload_n (pc := 111) (i := 0) E dX8_drawn_111 rfl rfl ?_
        refine nz_iconst (pc := 112) (v := 1) E dX8_drawn_112 (by decide) ?_
        obtain ⟨r32, x33, h34, hf⟩ := nz_bnd_t hf
        refine nz_callVI (pc := 113) (c0 := 0) (As := [.int _]) E rfl rfl (k_X8_kinds   _ _ _ h34) (nz_cwV E nz_w845 nz_w847 nz_w33 nz_w67 nz_w848 ds_X8_kinds ⟨Nat.le_of_ble_eq_true rfl, Nat.le_of_ble_eq_true rfl⟩ rfl rfl) rfl rfl (Nat.le_of_ble_eq_true rfl) dX8_drawn_113 ?_
        refine nz_iadd (pc := 116) E dX8_drawn_116 ?_
        refine nz_istore_n (pc := 117) (i := 2) E dX8_drawn_117 rfl (by decide) rfl ?_
        refine nz_iinc (pc := 118) (i := 3) (w := 1) E dX8_drawn_118 rfl (by decide) (by decide) rfl ?_
        refine nz_goto (pc := 121) (tgt := 28) E dX8_drawn_121 (by decide) ?_
        refine nz_weak (lv' := [(0, .ref (q 0)), (1, .int _), (2, .int _), (3, .int _)]) ⟨rfl, rfl, rfl, rfl, trivial⟩ ?_
        exact ih _ _ _ _ hf hK
set_option maxHeartbeats 4000000 in
set_option maxRecDepth 20000 in
theorem k_X8_drawn {l : Launch} {w : nz_O} {q : Nat → Nat} (a0 : Int32) (x : nz_S) (o : Int32 × nz_S) (hf : f_X8_drawn a0 x = some o) : nz_MI l yX8_drawn (nz_T yX8_drawn cX8_drawn 5 (some .int)) (nz_R 5 124) w q nz_tM [.ref (q 0), .int a0] x o := by
  refine nz_enterI (by decide) rfl (Nat.le_of_ble_eq_true rfl) rfl rfl ?_
  intro κ E hw hlq hR
  subst hw; subst hlq
  unfold f_X8_drawn at hf
  refine nz_weak (lv' := [(0, .ref (q 0)), (1, .int a0)]) ⟨rfl, rfl, trivial⟩ ?_
  refine nz_aload_n (pc := 0) (i := 0) E dX8_drawn_0 rfl rfl ?_
  refine nz_iconst (pc := 1) (v := 0) E dX8_drawn_1 (by decide) ?_
  refine nz_putI (pc := 2) (c := 0) (kf := 0) E rfl rfl (nz_upT nz_uX8) (by decide) (List.mem_cons_of_mem _ nz_w676) rfl tyX8 tyX8_ok nmX8 rfl (tyX8_ok 0 (by decide)) rfl dX8_drawn_2 ?_
  refine nz_iload_n (pc := 5) (i := 1) E dX8_drawn_5 rfl rfl ?_
  refine nz_i2l (pc := 6) E dX8_drawn_6 ?_
  refine nz_lconst (pc := 7) (v := 1) E dX8_drawn_7 (by decide) ?_
  refine nz_ldc2 (pc := 8) E (List.mem_cons_of_mem _ nz_w1057) dX8_drawn_8 ?_
  obtain ⟨r2, x3, h4, hf⟩ := nz_bnd_t hf
  refine nz_callSI (pc := 11) (As := [.long _, .long _, .long _]) E (k_X8_in   _ _ _ _ _ h4) (nz_cwS E nz_w766 nz_w767 nz_w67 nz_w768 ds_X8_in ⟨Nat.le_of_ble_eq_true rfl, Nat.le_of_ble_eq_true rfl⟩ rfl rfl) rfl rfl (Nat.le_of_ble_eq_true rfl) dX8_drawn_11 ?_
  refine nz_if_ne (pc := 14) (tgt := 20) E dX8_drawn_14 (by decide) (fun h5 => ?_) (fun h5 => ?_)
  · have hf := nz_ite_f hf h5
    refine nz_aload_n (pc := 20) (i := 0) E dX8_drawn_20 rfl rfl ?_
    obtain ⟨r6, x7, h8, hf⟩ := nz_bnd_t hf
    refine nz_callVV (pc := 21) (c0 := 0) (As := []) E rfl rfl (k_X8_begin   _ _ h8) (nz_cwV E nz_w972 nz_w974 nz_w49 nz_w67 nz_w975 ds_X8_begin ⟨Nat.le_of_ble_eq_true rfl, Nat.le_of_ble_eq_true rfl⟩ rfl rfl) rfl rfl (Nat.le_of_ble_eq_true rfl) dX8_drawn_21 ?_
    refine nz_iconst (pc := 24) (v := 0) E dX8_drawn_24 (by decide) ?_
    refine nz_istore_n (pc := 25) (i := 2) E dX8_drawn_25 rfl (by decide) rfl ?_
    refine nz_iconst (pc := 26) (v := 0) E dX8_drawn_26 (by decide) ?_
    refine nz_istore_n (pc := 27) (i := 3) E dX8_drawn_27 rfl (by decide) rfl ?_
    refine nz_weak (lv' := [(0, .ref (q 0)), (1, .int _), (2, .int _), (3, .int _)]) ⟨rfl, rfl, rfl, rfl, trivial⟩ ?_
    refine w_X8_drawn_28 _ E hR _ _ _ _ _ hf (fun u38 u39 x37 hf => ?_)
    refine nz_iload_n (pc := 124) (i := 2) E dX8_drawn_124 rfl rfl ?_
    exact nz_iret (pc := 125) E hR rfl hf dX8_drawn_125
  · have hf := nz_ite_t hf h5
    refine nz_bipush (pc := 17) (v := -2) E dX8_drawn_17 (by decide) ?_
    exact nz_iret (pc := 19) E hR rfl hf dX8_drawn_19
def f_X8_keep_26 (c1 : Int32) : Nat → Int32 → nz_S → (Int32 → nz_S → Option (Int32 × nz_S)) → Option (Int32 × nz_S)
  | 0, _, _, _ => none
  | fu + 1, w2, x, K =>
  if (61 : Int32) ≤ w2 then
    K w2 x
  else
    nz_chk (nz_in w2 61) <|
    let v10 : Int32 := (((61 : Int32) * c1) + w2)
    nz_chk (nz_in v10 122) <|
    let x12 : nz_S := nz_put x 6 (v10).toNatClampNeg (x.1 3 (w2).toNatClampNeg)
    let v13 : Int32 := w2 + 1
    f_X8_keep_26 c1 fu v13 x12 K
def f_X8_keep (a0 : Int32) (x : nz_S) : Option (Int32 × nz_S) :=
  let x1 : nz_S := nz_put x 0 0 (0 : Int32)
  nz_bnd (f_X8_in  (a0).toInt64 (0 : Int64) (1 : Int64) x1) fun r2 x3 =>
  if r2 = (0 : Int32) then
    some ((-1 : Int32), x3)
  else
    nz_chk (nz_in a0 2) <|
    let x7 : nz_S := nz_put x3 7 (a0).toNatClampNeg (1 : Int32)
    f_X8_keep_26 a0 nz_F (0 : Int32) x7 fun u15 x14 =>
      nz_bnd (f_X8_arcs 3  x14) fun r16 x17 =>
      some (r16, x17)
theorem ds_X8_keep : nz_dsc yX8_keep 1 := by unfold nz_dsc; decide +kernel
set_option maxHeartbeats 4000000 in
set_option maxRecDepth 20000 in
theorem w_X8_keep_26 {κ : nz_C} {q : Nat → Nat} {o : Int32 × nz_S} (c1 : Int32) (E : nz_Env κ q nz_tM 3 cX8_keep RX8 (nz_T yX8_keep cX8_keep 3 (some .int)) (nz_R 1 25)) (hR : nz_RI κ q nz_tM .int o) : ∀ (fu : Nat) (w2 : Int32) (x : nz_S) (K : Int32 → nz_S → Option (Int32 × nz_S)), f_X8_keep_26 c1 fu w2 x K = some o → (∀ (w2 : Int32) (x : nz_S), K w2 x = some o → nz_St κ q nz_tM 3 55 [(0, .ref (q 0)), (1, .int c1), (2, .int w2)] [] x) → nz_St κ q nz_tM 3 26 [(0, .ref (q 0)), (1, .int c1), (2, .int w2)] [] x := by
  intro fu
  induction fu with
  | zero => intro w2 x K hf; rw [f_X8_keep_26] at hf; cases hf
  | succ fu ih =>
    intro w2 x K hf hK
    rw [f_X8_keep_26] at hf
    refine nz_iload_n (pc := 26) (i := 2) E dX8_keep_26 rfl rfl ?_
    refine nz_bipush (pc := 27) (v := 61) E dX8_keep_27 (by decide) ?_
    refine nz_icmp_ge (pc := 29) (tgt := 55) E dX8_keep_29 (by decide) (fun h8 => ?_) (fun h8 => ?_)
    · have hf := nz_ite_t hf h8
      refine nz_weak (lv' := [(0, .ref (q 0)), (1, .int _), (2, .int _)]) ⟨rfl, rfl, rfl, trivial⟩ ?_
      exact hK _ _ hf
    · have hf := nz_ite_f hf h8
      refine nz_aload_n (pc := 32) (i := 0) E dX8_keep_32 rfl rfl ?_
      refine nz_getR (pc := 33) (c := 0) (kf := 9) E rfl rfl (nz_upT nz_uX8) (by decide) (List.mem_cons_of_mem _ nz_w685) rfl rfl dX8_keep_33 ?_
      refine nz_bipush (pc := 36) (v := 61) E dX8_keep_36 (by decide) ?_
      refine nz_iload_n (pc := 38) (i := 1) E dX8_keep_38 rfl rfl ?_
      refine nz_imul (pc := 39) E dX8_keep_39 ?_
      refine nz_iload_n (pc := 40) (i := 2) E dX8_keep_40 rfl rfl ?_
      refine nz_iadd (pc := 41) E dX8_keep_41 ?_
      refine nz_aload_n (pc := 42) (i := 0) E dX8_keep_42 rfl rfl ?_
      refine nz_getR (pc := 43) (c := 0) (kf := 5) E rfl rfl (nz_upT nz_uX8) (by decide) (List.mem_cons_of_mem _ nz_w681) rfl rfl dX8_keep_43 ?_
      refine nz_iload_n (pc := 46) (i := 2) E dX8_keep_46 rfl rfl ?_
      obtain ⟨h9, hf⟩ := nz_chk_t hf
      refine nz_iald (pc := 47) (c := 3) E rfl h9 dX8_keep_47 ?_
      obtain ⟨h11, hf⟩ := nz_chk_t hf
      refine nz_iast (pc := 48) (c := 6) E rfl h11 dX8_keep_48 ?_
      refine nz_iinc (pc := 49) (i := 2) (w := 1) E dX8_keep_49 rfl (by decide) (by decide) rfl ?_
      refine nz_goto (pc := 52) (tgt := 26) E dX8_keep_52 (by decide) ?_
      refine nz_weak (lv' := [(0, .ref (q 0)), (1, .int _), (2, .int _)]) ⟨rfl, rfl, rfl, trivial⟩ ?_
      exact ih _ _ _ hf hK
set_option maxHeartbeats 4000000 in
set_option maxRecDepth 20000 in
theorem k_X8_keep {l : Launch} {w : nz_O} {q : Nat → Nat} (a0 : Int32) (x : nz_S) (o : Int32 × nz_S) (hf : f_X8_keep a0 x = some o) : nz_MI l yX8_keep (nz_T yX8_keep cX8_keep 3 (some .int)) (nz_R 1 25) w q nz_tM [.ref (q 0), .int a0] x o := by
  refine nz_enterI (by decide) rfl (Nat.le_of_ble_eq_true rfl) rfl rfl ?_
  intro κ E hw hlq hR
  subst hw; subst hlq
  unfold f_X8_keep at hf
  refine nz_weak (lv' := [(0, .ref (q 0)), (1, .int a0)]) ⟨rfl, rfl, trivial⟩ ?_
  refine nz_aload_n (pc := 0) (i := 0) E dX8_keep_0 rfl rfl ?_
  refine nz_iconst (pc := 1) (v := 0) E dX8_keep_1 (by decide) ?_
  refine nz_putI (pc := 2) (c := 0) (kf := 0) E rfl rfl (nz_upT nz_uX8) (by decide) (List.mem_cons_of_mem _ nz_w676) rfl tyX8 tyX8_ok nmX8 rfl (tyX8_ok 0 (by decide)) rfl dX8_keep_2 ?_
  refine nz_iload_n (pc := 5) (i := 1) E dX8_keep_5 rfl rfl ?_
  refine nz_i2l (pc := 6) E dX8_keep_6 ?_
  refine nz_lconst (pc := 7) (v := 0) E dX8_keep_7 (by decide) ?_
  refine nz_lconst (pc := 8) (v := 1) E dX8_keep_8 (by decide) ?_
  obtain ⟨r2, x3, h4, hf⟩ := nz_bnd_t hf
  refine nz_callSI (pc := 9) (As := [.long _, .long _, .long _]) E (k_X8_in   _ _ _ _ _ h4) (nz_cwS E nz_w766 nz_w767 nz_w67 nz_w768 ds_X8_in ⟨Nat.le_of_ble_eq_true rfl, Nat.le_of_ble_eq_true rfl⟩ rfl rfl) rfl rfl (Nat.le_of_ble_eq_true rfl) dX8_keep_9 ?_
  refine nz_if_ne (pc := 12) (tgt := 17) E dX8_keep_12 (by decide) (fun h5 => ?_) (fun h5 => ?_)
  · have hf := nz_ite_f hf h5
    refine nz_aload_n (pc := 17) (i := 0) E dX8_keep_17 rfl rfl ?_
    refine nz_getR (pc := 18) (c := 0) (kf := 10) E rfl rfl (nz_upT nz_uX8) (by decide) (List.mem_cons_of_mem _ nz_w686) rfl rfl dX8_keep_18 ?_
    refine nz_iload_n (pc := 21) (i := 1) E dX8_keep_21 rfl rfl ?_
    refine nz_iconst (pc := 22) (v := 1) E dX8_keep_22 (by decide) ?_
    obtain ⟨h6, hf⟩ := nz_chk_t hf
    refine nz_zast (pc := 23) (c := 7) E rfl h6 rfl dX8_keep_23 ?_
    refine nz_iconst (pc := 24) (v := 0) E dX8_keep_24 (by decide) ?_
    refine nz_istore_n (pc := 25) (i := 2) E dX8_keep_25 rfl (by decide) rfl ?_
    refine nz_weak (lv' := [(0, .ref (q 0)), (1, .int _), (2, .int _)]) ⟨rfl, rfl, rfl, trivial⟩ ?_
    refine w_X8_keep_26 _ E hR _ _ _ _ hf (fun u15 x14 hf => ?_)
    refine nz_aload_n (pc := 55) (i := 0) E dX8_keep_55 rfl rfl ?_
    refine nz_getR (pc := 56) (c := 0) (kf := 5) E rfl rfl (nz_upT nz_uX8) (by decide) (List.mem_cons_of_mem _ nz_w681) rfl rfl dX8_keep_56 ?_
    obtain ⟨r16, x17, h18, hf⟩ := nz_bnd_t hf
    refine nz_callSI (pc := 59) (As := [.ref (q 3)]) E (k_X8_arcs 3 nz_p3 _ _ h18) (nz_cwS E nz_w842 nz_w843 nz_w67 nz_w844 ds_X8_arcs ⟨Nat.le_of_ble_eq_true rfl, Nat.le_of_ble_eq_true rfl⟩ rfl rfl) rfl rfl (Nat.le_of_ble_eq_true rfl) dX8_keep_59 ?_
    exact nz_iret (pc := 62) E hR rfl hf dX8_keep_62
  · have hf := nz_ite_t hf h5
    refine nz_iconst (pc := 15) (v := -1) E dX8_keep_15 (by decide) ?_
    exact nz_iret (pc := 16) E hR rfl hf dX8_keep_16
def f_X8_again_31 (c1 : Int32) : Nat → Int32 → nz_S → (Int32 → nz_S → Option (Int32 × nz_S)) → Option (Int32 × nz_S)
  | 0, _, _, _ => none
  | fu + 1, w2, x, K =>
  if (61 : Int32) ≤ w2 then
    K w2 x
  else
    let v9 : Int32 := (((61 : Int32) * c1) + w2)
    nz_chk (nz_in v9 122) <|
    nz_chk (nz_in w2 61) <|
    let x12 : nz_S := nz_put x 3 (w2).toNatClampNeg (x.1 6 (v9).toNatClampNeg)
    let v13 : Int32 := w2 + 1
    f_X8_again_31 c1 fu v13 x12 K
def f_X8_again (a0 : Int32) (x : nz_S) : Option (Int32 × nz_S) :=
  let x1 : nz_S := nz_put x 0 0 (0 : Int32)
  nz_bnd (f_X8_in  (a0).toInt64 (0 : Int64) (1 : Int64) x1) fun r2 x3 =>
  if r2 = (0 : Int32) then
    some ((-1 : Int32), x3)
  else
    nz_chk (nz_in a0 2) <|
    if (x3.1 7 (a0).toNatClampNeg) = (0 : Int32) then
      some ((-3 : Int32), x3)
    else
      f_X8_again_31 a0 nz_F (0 : Int32) x3 fun u15 x14 =>
        let x16 : nz_S := nz_put x14 0 8 (0 : Int32)
        nz_bnd (f_X8_arcs 3  x16) fun r17 x18 =>
        some (r17, x18)
theorem ds_X8_again : nz_dsc yX8_again 1 := by unfold nz_dsc; decide +kernel
set_option maxHeartbeats 4000000 in
set_option maxRecDepth 20000 in
theorem w_X8_again_31 {κ : nz_C} {q : Nat → Nat} {o : Int32 × nz_S} (c1 : Int32) (E : nz_Env κ q nz_tM 3 cX8_again RX8 (nz_T yX8_again cX8_again 3 (some .int)) (nz_R 1 25)) (hR : nz_RI κ q nz_tM .int o) : ∀ (fu : Nat) (w2 : Int32) (x : nz_S) (K : Int32 → nz_S → Option (Int32 × nz_S)), f_X8_again_31 c1 fu w2 x K = some o → (∀ (w2 : Int32) (x : nz_S), K w2 x = some o → nz_St κ q nz_tM 3 60 [(0, .ref (q 0)), (1, .int c1), (2, .int w2)] [] x) → nz_St κ q nz_tM 3 31 [(0, .ref (q 0)), (1, .int c1), (2, .int w2)] [] x := by
  intro fu
  induction fu with
  | zero => intro w2 x K hf; rw [f_X8_again_31] at hf; cases hf
  | succ fu ih =>
    intro w2 x K hf hK
    rw [f_X8_again_31] at hf
    refine nz_iload_n (pc := 31) (i := 2) E dX8_again_31 rfl rfl ?_
    refine nz_bipush (pc := 32) (v := 61) E dX8_again_32 (by decide) ?_
    refine nz_icmp_ge (pc := 34) (tgt := 60) E dX8_again_34 (by decide) (fun h8 => ?_) (fun h8 => ?_)
    · have hf := nz_ite_t hf h8
      refine nz_weak (lv' := [(0, .ref (q 0)), (1, .int _), (2, .int _)]) ⟨rfl, rfl, rfl, trivial⟩ ?_
      exact hK _ _ hf
    · have hf := nz_ite_f hf h8
      refine nz_aload_n (pc := 37) (i := 0) E dX8_again_37 rfl rfl ?_
      refine nz_getR (pc := 38) (c := 0) (kf := 5) E rfl rfl (nz_upT nz_uX8) (by decide) (List.mem_cons_of_mem _ nz_w681) rfl rfl dX8_again_38 ?_
      refine nz_iload_n (pc := 41) (i := 2) E dX8_again_41 rfl rfl ?_
      refine nz_aload_n (pc := 42) (i := 0) E dX8_again_42 rfl rfl ?_
      refine nz_getR (pc := 43) (c := 0) (kf := 9) E rfl rfl (nz_upT nz_uX8) (by decide) (List.mem_cons_of_mem _ nz_w685) rfl rfl dX8_again_43 ?_
      refine nz_bipush (pc := 46) (v := 61) E dX8_again_46 (by decide) ?_
      refine nz_iload_n (pc := 48) (i := 1) E dX8_again_48 rfl rfl ?_
      refine nz_imul (pc := 49) E dX8_again_49 ?_
      refine nz_iload_n (pc := 50) (i := 2) E dX8_again_50 rfl rfl ?_
      refine nz_iadd (pc := 51) E dX8_again_51 ?_
      obtain ⟨h10, hf⟩ := nz_chk_t hf
      refine nz_iald (pc := 52) (c := 6) E rfl h10 dX8_again_52 ?_
      obtain ⟨h11, hf⟩ := nz_chk_t hf
      refine nz_iast (pc := 53) (c := 3) E rfl h11 dX8_again_53 ?_
      refine nz_iinc (pc := 54) (i := 2) (w := 1) E dX8_again_54 rfl (by decide) (by decide) rfl ?_
      refine nz_goto (pc := 57) (tgt := 31) E dX8_again_57 (by decide) ?_
      refine nz_weak (lv' := [(0, .ref (q 0)), (1, .int _), (2, .int _)]) ⟨rfl, rfl, rfl, trivial⟩ ?_
      exact ih _ _ _ hf hK
set_option maxHeartbeats 4000000 in
set_option maxRecDepth 20000 in
theorem k_X8_again {l : Launch} {w : nz_O} {q : Nat → Nat} (a0 : Int32) (x : nz_S) (o : Int32 × nz_S) (hf : f_X8_again a0 x = some o) : nz_MI l yX8_again (nz_T yX8_again cX8_again 3 (some .int)) (nz_R 1 25) w q nz_tM [.ref (q 0), .int a0] x o := by
  refine nz_enterI (by decide) rfl (Nat.le_of_ble_eq_true rfl) rfl rfl ?_
  intro κ E hw hlq hR
  subst hw; subst hlq
  unfold f_X8_again at hf
  refine nz_weak (lv' := [(0, .ref (q 0)), (1, .int a0)]) ⟨rfl, rfl, trivial⟩ ?_
  refine nz_aload_n (pc := 0) (i := 0) E dX8_again_0 rfl rfl ?_
  refine nz_iconst (pc := 1) (v := 0) E dX8_again_1 (by decide) ?_
  refine nz_putI (pc := 2) (c := 0) (kf := 0) E rfl rfl (nz_upT nz_uX8) (by decide) (List.mem_cons_of_mem _ nz_w676) rfl tyX8 tyX8_ok nmX8 rfl (tyX8_ok 0 (by decide)) rfl dX8_again_2 ?_
  refine nz_iload_n (pc := 5) (i := 1) E dX8_again_5 rfl rfl ?_
  refine nz_i2l (pc := 6) E dX8_again_6 ?_
  refine nz_lconst (pc := 7) (v := 0) E dX8_again_7 (by decide) ?_
  refine nz_lconst (pc := 8) (v := 1) E dX8_again_8 (by decide) ?_
  obtain ⟨r2, x3, h4, hf⟩ := nz_bnd_t hf
  refine nz_callSI (pc := 9) (As := [.long _, .long _, .long _]) E (k_X8_in   _ _ _ _ _ h4) (nz_cwS E nz_w766 nz_w767 nz_w67 nz_w768 ds_X8_in ⟨Nat.le_of_ble_eq_true rfl, Nat.le_of_ble_eq_true rfl⟩ rfl rfl) rfl rfl (Nat.le_of_ble_eq_true rfl) dX8_again_9 ?_
  refine nz_if_ne (pc := 12) (tgt := 17) E dX8_again_12 (by decide) (fun h5 => ?_) (fun h5 => ?_)
  · have hf := nz_ite_f hf h5
    refine nz_aload_n (pc := 17) (i := 0) E dX8_again_17 rfl rfl ?_
    refine nz_getR (pc := 18) (c := 0) (kf := 10) E rfl rfl (nz_upT nz_uX8) (by decide) (List.mem_cons_of_mem _ nz_w686) rfl rfl dX8_again_18 ?_
    refine nz_iload_n (pc := 21) (i := 1) E dX8_again_21 rfl rfl ?_
    obtain ⟨h6, hf⟩ := nz_chk_t hf
    refine nz_zald (pc := 22) (c := 7) E rfl h6 dX8_again_22 ?_
    refine nz_if_ne (pc := 23) (tgt := 29) E dX8_again_23 (by decide) (fun h7 => ?_) (fun h7 => ?_)
    · have hf := nz_ite_f hf h7
      refine nz_iconst (pc := 29) (v := 0) E dX8_again_29 (by decide) ?_
      refine nz_istore_n (pc := 30) (i := 2) E dX8_again_30 rfl (by decide) rfl ?_
      refine nz_weak (lv' := [(0, .ref (q 0)), (1, .int _), (2, .int _)]) ⟨rfl, rfl, rfl, trivial⟩ ?_
      refine w_X8_again_31 _ E hR _ _ _ _ hf (fun u15 x14 hf => ?_)
      refine nz_aload_n (pc := 60) (i := 0) E dX8_again_60 rfl rfl ?_
      refine nz_iconst (pc := 61) (v := 0) E dX8_again_61 (by decide) ?_
      refine nz_putI (pc := 62) (c := 0) (kf := 8) E rfl rfl (nz_upT nz_uX8) (by decide) (List.mem_cons_of_mem _ nz_w684) rfl tyX8 tyX8_ok nmX8 rfl (tyX8_ok 8 (by decide)) rfl dX8_again_62 ?_
      refine nz_aload_n (pc := 65) (i := 0) E dX8_again_65 rfl rfl ?_
      refine nz_getR (pc := 66) (c := 0) (kf := 5) E rfl rfl (nz_upT nz_uX8) (by decide) (List.mem_cons_of_mem _ nz_w681) rfl rfl dX8_again_66 ?_
      obtain ⟨r17, x18, h19, hf⟩ := nz_bnd_t hf
      refine nz_callSI (pc := 69) (As := [.ref (q 3)]) E (k_X8_arcs 3 nz_p3 _ _ h19) (nz_cwS E nz_w842 nz_w843 nz_w67 nz_w844 ds_X8_arcs ⟨Nat.le_of_ble_eq_true rfl, Nat.le_of_ble_eq_true rfl⟩ rfl rfl) rfl rfl (Nat.le_of_ble_eq_true rfl) dX8_again_69 ?_
      exact nz_iret (pc := 72) E hR rfl hf dX8_again_72
    · have hf := nz_ite_t hf h7
      refine nz_bipush (pc := 26) (v := -3) E dX8_again_26 (by decide) ?_
      exact nz_iret (pc := 28) E hR rfl hf dX8_again_28
  · have hf := nz_ite_t hf h5
    refine nz_iconst (pc := 15) (v := -1) E dX8_again_15 (by decide) ?_
    exact nz_iret (pc := 16) E hR rfl hf dX8_again_16
