def f_X8_isSo (a0 : Int32) (a1 : Int32) (a2 : Int32) (x : nz_S) : Option (Int32 × nz_S) :=
  nz_bnd (f_X8_find 4  x) fun r1 x2 =>
  if a0 = (4 : Int32) then
    if a1 = (0 : Int32) then
      if a2 = (0 : Int32) then
        nz_bnd (f_X8_isTame 4  x2) fun r32 x33 =>
        if r32 = (0 : Int32) then
          some ((0 : Int32), x33)
        else
          some ((1 : Int32), x33)
      else
        some ((0 : Int32), x2)
    else
      some ((0 : Int32), x2)
  else
    nz_chk (nz_in (0 : Int32) 61) <|
    if a1 < (x2.1 4 ((0 : Int32)).toNatClampNeg) then
      if a0 = (5 : Int32) then
        nz_chk (nz_in a1 12) <|
        if (x2.1 16 (a1).toNatClampNeg) = a2 then
          some ((1 : Int32), x2)
        else
          some ((0 : Int32), x2)
      else
      if a0 = (6 : Int32) then
        nz_bnd (f_X8_depth  a1 x2) fun r11 x12 =>
        if r11 = a2 then
          some ((1 : Int32), x12)
        else
          some ((0 : Int32), x12)
      else
      if a0 = (7 : Int32) then
        nz_chk (nz_in (0 : Int32) 61) <|
        if (x2.1 4 ((0 : Int32)).toNatClampNeg) ≤ a2 then
          some ((0 : Int32), x2)
        else
          nz_chk (nz_in a2 12) <|
          if (x2.1 15 (a2).toNatClampNeg) = a1 then
            some ((1 : Int32), x2)
          else
            some ((0 : Int32), x2)
      else
        if a0 = (8 : Int32) then
          nz_chk (nz_in (0 : Int32) 61) <|
          if (x2.1 4 ((0 : Int32)).toNatClampNeg) ≤ a2 then
            some ((0 : Int32), x2)
          else
            nz_bnd (f_X8_passed 4 a1 x2) fun r23 x24 =>
            nz_bnd (f_X8_has  r23 a2 x24) fun r26 x27 =>
            if r26 = (0 : Int32) then
              some ((0 : Int32), x27)
            else
              some ((1 : Int32), x27)
        else
          some ((0 : Int32), x2)
    else
      some ((0 : Int32), x2)
theorem ds_X8_isSo : nz_dsc yX8_isSo 3 := by unfold nz_dsc; decide +kernel
set_option maxHeartbeats 4000000 in
set_option maxRecDepth 20000 in
theorem k_X8_isSo {l : Launch} {w : nz_O} {q : Nat → Nat} (a0 : Int32) (a1 : Int32) (a2 : Int32) (x : nz_S) (o : Int32 × nz_S) (hf : f_X8_isSo a0 a1 a2 x = some o) : nz_MI l yX8_isSo (nz_T yX8_isSo cX8_isSo 4 (some .boolean)) (nz_R 5 124) w q nz_tM [.ref (q 0), .int a0, .int a1, .int a2] x o := by
  refine nz_enterI (by decide) rfl (Nat.le_of_ble_eq_true rfl) rfl rfl ?_
  intro κ E hw hlq hR
  subst hw; subst hlq
  unfold f_X8_isSo at hf
  refine nz_weak (lv' := [(0, .ref (q 0)), (1, .int a0), (2, .int a1), (3, .int a2)]) ⟨rfl, rfl, rfl, rfl, trivial⟩ ?_
  refine nz_aload_n (pc := 0) (i := 0) E dX8_isSo_0 rfl rfl ?_
  refine nz_aload_n (pc := 1) (i := 0) E dX8_isSo_1 rfl rfl ?_
  refine nz_getR (pc := 2) (c := 0) (kf := 6) E rfl rfl (nz_upT nz_uX8) (by decide) (List.mem_cons_of_mem _ nz_w682) rfl rfl dX8_isSo_2 ?_
  obtain ⟨r1, x2, h3, hf⟩ := nz_bnd_t hf
  refine nz_callVV (pc := 5) (c0 := 0) (As := [.ref (q 4)]) E rfl rfl (k_X8_find 4 nz_p4 _ _ h3) (nz_cwV E nz_w800 nz_w802 nz_w24 nz_w67 nz_w803 ds_X8_find ⟨Nat.le_of_ble_eq_true rfl, Nat.le_of_ble_eq_true rfl⟩ rfl rfl) rfl rfl (Nat.le_of_ble_eq_true rfl) dX8_isSo_5 ?_
  refine nz_iload_n (pc := 8) (i := 1) E dX8_isSo_8 rfl rfl ?_
  refine nz_iconst (pc := 9) (v := 4) E dX8_isSo_9 (by decide) ?_
  refine nz_icmp_ne (pc := 10) (tgt := 38) E dX8_isSo_10 (by decide) (fun h4 => ?_) (fun h4 => ?_)
  · have hf := nz_ite_f hf h4
    refine nz_iload_n (pc := 38) (i := 2) E dX8_isSo_38 rfl rfl ?_
    refine nz_aload_n (pc := 39) (i := 0) E dX8_isSo_39 rfl rfl ?_
    refine nz_getR (pc := 40) (c := 0) (kf := 6) E rfl rfl (nz_upT nz_uX8) (by decide) (List.mem_cons_of_mem _ nz_w682) rfl rfl dX8_isSo_40 ?_
    refine nz_iconst (pc := 43) (v := 0) E dX8_isSo_43 (by decide) ?_
    obtain ⟨h5, hf⟩ := nz_chk_t hf
    refine nz_iald (pc := 44) (c := 4) E rfl h5 dX8_isSo_44 ?_
    refine nz_icmp_lt (pc := 45) (tgt := 50) E dX8_isSo_45 (by decide) (fun h6 => ?_) (fun h6 => ?_)
    · have hf := nz_ite_t hf h6
      refine nz_iload_n (pc := 50) (i := 1) E dX8_isSo_50 rfl rfl ?_
      by_cases h7 : a0 = 5
      · have hf := nz_ite_t hf h7
        refine nz_tabIn (pc := 51) (off := 25) (tgt := 76) E dX8_isSo_51 (by rw [h7]; decide) (by rw [h7]; decide) (by rw [h7]; rfl) (by decide) ?_
        refine nz_aload_n (pc := 76) (i := 0) E dX8_isSo_76 rfl rfl ?_
        refine nz_getR (pc := 77) (c := 0) (kf := 22) E rfl rfl (nz_upT nz_uX8) (by decide) (List.mem_cons_of_mem _ nz_w698) rfl rfl dX8_isSo_77 ?_
        refine nz_iload_n (pc := 80) (i := 2) E dX8_isSo_80 rfl rfl ?_
        obtain ⟨h8, hf⟩ := nz_chk_t hf
        refine nz_iald (pc := 81) (c := 16) E rfl h8 dX8_isSo_81 ?_
        refine nz_iload_n (pc := 82) (i := 3) E dX8_isSo_82 rfl rfl ?_
        refine nz_icmp_ne (pc := 83) (tgt := 90) E dX8_isSo_83 (by decide) (fun h9 => ?_) (fun h9 => ?_)
        · have hf := nz_ite_f hf h9
          refine nz_iconst (pc := 90) (v := 0) E dX8_isSo_90 (by decide) ?_
          exact nz_iret (pc := 91) E hR rfl hf dX8_isSo_91
        · have hf := nz_ite_t hf h9
          refine nz_iconst (pc := 86) (v := 1) E dX8_isSo_86 (by decide) ?_
          refine nz_goto (pc := 87) (tgt := 91) E dX8_isSo_87 (by decide) ?_
          exact nz_iret (pc := 91) E hR rfl hf dX8_isSo_91
      · have hf := nz_ite_f hf h7
        by_cases h10 : a0 = 6
        · have hf := nz_ite_t hf h10
          refine nz_tabIn (pc := 51) (off := 41) (tgt := 92) E dX8_isSo_51 (by rw [h10]; decide) (by rw [h10]; decide) (by rw [h10]; rfl) (by decide) ?_
          refine nz_aload_n (pc := 92) (i := 0) E dX8_isSo_92 rfl rfl ?_
          refine nz_iload_n (pc := 93) (i := 2) E dX8_isSo_93 rfl rfl ?_
          obtain ⟨r11, x12, h13, hf⟩ := nz_bnd_t hf
          refine nz_callVI (pc := 94) (c0 := 0) (As := [.int _]) E rfl rfl (k_X8_depth   _ _ _ h13) (nz_cwV E nz_w853 nz_w855 nz_w35 nz_w67 nz_w856 ds_X8_depth ⟨Nat.le_of_ble_eq_true rfl, Nat.le_of_ble_eq_true rfl⟩ rfl rfl) rfl rfl (Nat.le_of_ble_eq_true rfl) dX8_isSo_94 ?_
          refine nz_iload_n (pc := 97) (i := 3) E dX8_isSo_97 rfl rfl ?_
          refine nz_icmp_ne (pc := 98) (tgt := 105) E dX8_isSo_98 (by decide) (fun h14 => ?_) (fun h14 => ?_)
          · have hf := nz_ite_f hf h14
            refine nz_iconst (pc := 105) (v := 0) E dX8_isSo_105 (by decide) ?_
            exact nz_iret (pc := 106) E hR rfl hf dX8_isSo_106
          · have hf := nz_ite_t hf h14
            refine nz_iconst (pc := 101) (v := 1) E dX8_isSo_101 (by decide) ?_
            refine nz_goto (pc := 102) (tgt := 106) E dX8_isSo_102 (by decide) ?_
            exact nz_iret (pc := 106) E hR rfl hf dX8_isSo_106
        · have hf := nz_ite_f hf h10
          by_cases h15 : a0 = 7
          · have hf := nz_ite_t hf h15
            refine nz_tabIn (pc := 51) (off := 56) (tgt := 107) E dX8_isSo_51 (by rw [h15]; decide) (by rw [h15]; decide) (by rw [h15]; rfl) (by decide) ?_
            refine nz_iload_n (pc := 107) (i := 3) E dX8_isSo_107 rfl rfl ?_
            refine nz_aload_n (pc := 108) (i := 0) E dX8_isSo_108 rfl rfl ?_
            refine nz_getR (pc := 109) (c := 0) (kf := 6) E rfl rfl (nz_upT nz_uX8) (by decide) (List.mem_cons_of_mem _ nz_w682) rfl rfl dX8_isSo_109 ?_
            refine nz_iconst (pc := 112) (v := 0) E dX8_isSo_112 (by decide) ?_
            obtain ⟨h16, hf⟩ := nz_chk_t hf
            refine nz_iald (pc := 113) (c := 4) E rfl h16 dX8_isSo_113 ?_
            refine nz_icmp_ge (pc := 114) (tgt := 131) E dX8_isSo_114 (by decide) (fun h17 => ?_) (fun h17 => ?_)
            · have hf := nz_ite_t hf h17
              refine nz_iconst (pc := 131) (v := 0) E dX8_isSo_131 (by decide) ?_
              exact nz_iret (pc := 132) E hR rfl hf dX8_isSo_132
            · have hf := nz_ite_f hf h17
              refine nz_aload_n (pc := 117) (i := 0) E dX8_isSo_117 rfl rfl ?_
              refine nz_getR (pc := 118) (c := 0) (kf := 21) E rfl rfl (nz_upT nz_uX8) (by decide) (List.mem_cons_of_mem _ nz_w697) rfl rfl dX8_isSo_118 ?_
              refine nz_iload_n (pc := 121) (i := 3) E dX8_isSo_121 rfl rfl ?_
              obtain ⟨h18, hf⟩ := nz_chk_t hf
              refine nz_iald (pc := 122) (c := 15) E rfl h18 dX8_isSo_122 ?_
              refine nz_iload_n (pc := 123) (i := 2) E dX8_isSo_123 rfl rfl ?_
              refine nz_icmp_ne (pc := 124) (tgt := 131) E dX8_isSo_124 (by decide) (fun h19 => ?_) (fun h19 => ?_)
              · have hf := nz_ite_f hf h19
                refine nz_iconst (pc := 131) (v := 0) E dX8_isSo_131 (by decide) ?_
                exact nz_iret (pc := 132) E hR rfl hf dX8_isSo_132
              · have hf := nz_ite_t hf h19
                refine nz_iconst (pc := 127) (v := 1) E dX8_isSo_127 (by decide) ?_
                refine nz_goto (pc := 128) (tgt := 132) E dX8_isSo_128 (by decide) ?_
                exact nz_iret (pc := 132) E hR rfl hf dX8_isSo_132
          · have hf := nz_ite_f hf h15
            have th7 : (a0).toInt ≠ 5 := fun e => h7 (nz_i32 (by rw [e]; decide))
            have th10 : (a0).toInt ≠ 6 := fun e => h10 (nz_i32 (by rw [e]; decide))
            have th15 : (a0).toInt ≠ 7 := fun e => h15 (nz_i32 (by rw [e]; decide))
            refine nz_tabOut (pc := 51) (tgt := 133) E dX8_isSo_51 (by omega) (by decide) ?_
            refine nz_iload_n (pc := 133) (i := 1) E dX8_isSo_133 rfl rfl ?_
            refine nz_bipush (pc := 134) (v := 8) E dX8_isSo_134 (by decide) ?_
            refine nz_icmp_ne (pc := 136) (tgt := 168) E dX8_isSo_136 (by decide) (fun h20 => ?_) (fun h20 => ?_)
            · have hf := nz_ite_f hf h20
              refine nz_iconst (pc := 168) (v := 0) E dX8_isSo_168 (by decide) ?_
              exact nz_iret (pc := 169) E hR rfl hf dX8_isSo_169
            · have hf := nz_ite_t hf h20
              refine nz_iload_n (pc := 139) (i := 3) E dX8_isSo_139 rfl rfl ?_
              refine nz_aload_n (pc := 140) (i := 0) E dX8_isSo_140 rfl rfl ?_
              refine nz_getR (pc := 141) (c := 0) (kf := 6) E rfl rfl (nz_upT nz_uX8) (by decide) (List.mem_cons_of_mem _ nz_w682) rfl rfl dX8_isSo_141 ?_
              refine nz_iconst (pc := 144) (v := 0) E dX8_isSo_144 (by decide) ?_
              obtain ⟨h21, hf⟩ := nz_chk_t hf
              refine nz_iald (pc := 145) (c := 4) E rfl h21 dX8_isSo_145 ?_
              refine nz_icmp_ge (pc := 146) (tgt := 168) E dX8_isSo_146 (by decide) (fun h22 => ?_) (fun h22 => ?_)
              · have hf := nz_ite_t hf h22
                refine nz_iconst (pc := 168) (v := 0) E dX8_isSo_168 (by decide) ?_
                exact nz_iret (pc := 169) E hR rfl hf dX8_isSo_169
              · have hf := nz_ite_f hf h22
                refine nz_aload_n (pc := 149) (i := 0) E dX8_isSo_149 rfl rfl ?_
                refine nz_getR (pc := 150) (c := 0) (kf := 6) E rfl rfl (nz_upT nz_uX8) (by decide) (List.mem_cons_of_mem _ nz_w682) rfl rfl dX8_isSo_150 ?_
                refine nz_iload_n (pc := 153) (i := 2) E dX8_isSo_153 rfl rfl ?_
                obtain ⟨r23, x24, h25, hf⟩ := nz_bnd_t hf
                refine nz_callSI (pc := 154) (As := [.ref (q 4), .int _]) E (k_X8_passed 4 nz_p4 _ _ _ h25) (nz_cwS E nz_w861 nz_w862 nz_w67 nz_w863 ds_X8_passed ⟨Nat.le_of_ble_eq_true rfl, Nat.le_of_ble_eq_true rfl⟩ rfl rfl) rfl rfl (Nat.le_of_ble_eq_true rfl) dX8_isSo_154 ?_
                refine nz_iload_n (pc := 157) (i := 3) E dX8_isSo_157 rfl rfl ?_
                obtain ⟨r26, x27, h28, hf⟩ := nz_bnd_t hf
                refine nz_callSI (pc := 158) (As := [.int _, .int _]) E (k_X8_has   _ _ _ _ h28) (nz_cwS E nz_w831 nz_w832 nz_w67 nz_w833 ds_X8_has ⟨Nat.le_of_ble_eq_true rfl, Nat.le_of_ble_eq_true rfl⟩ rfl rfl) rfl rfl (Nat.le_of_ble_eq_true rfl) dX8_isSo_158 ?_
                refine nz_if_eq (pc := 161) (tgt := 168) E dX8_isSo_161 (by decide) (fun h29 => ?_) (fun h29 => ?_)
                · have hf := nz_ite_t hf h29
                  refine nz_iconst (pc := 168) (v := 0) E dX8_isSo_168 (by decide) ?_
                  exact nz_iret (pc := 169) E hR rfl hf dX8_isSo_169
                · have hf := nz_ite_f hf h29
                  refine nz_iconst (pc := 164) (v := 1) E dX8_isSo_164 (by decide) ?_
                  refine nz_goto (pc := 165) (tgt := 169) E dX8_isSo_165 (by decide) ?_
                  exact nz_iret (pc := 169) E hR rfl hf dX8_isSo_169
    · have hf := nz_ite_f hf h6
      refine nz_iconst (pc := 48) (v := 0) E dX8_isSo_48 (by decide) ?_
      exact nz_iret (pc := 49) E hR rfl hf dX8_isSo_49
  · have hf := nz_ite_t hf h4
    refine nz_iload_n (pc := 13) (i := 2) E dX8_isSo_13 rfl rfl ?_
    refine nz_if_ne (pc := 14) (tgt := 36) E dX8_isSo_14 (by decide) (fun h30 => ?_) (fun h30 => ?_)
    · have hf := nz_ite_f hf h30
      refine nz_iconst (pc := 36) (v := 0) E dX8_isSo_36 (by decide) ?_
      exact nz_iret (pc := 37) E hR rfl hf dX8_isSo_37
    · have hf := nz_ite_t hf h30
      refine nz_iload_n (pc := 17) (i := 3) E dX8_isSo_17 rfl rfl ?_
      refine nz_if_ne (pc := 18) (tgt := 36) E dX8_isSo_18 (by decide) (fun h31 => ?_) (fun h31 => ?_)
      · have hf := nz_ite_f hf h31
        refine nz_iconst (pc := 36) (v := 0) E dX8_isSo_36 (by decide) ?_
        exact nz_iret (pc := 37) E hR rfl hf dX8_isSo_37
      · have hf := nz_ite_t hf h31
        refine nz_aload_n (pc := 21) (i := 0) E dX8_isSo_21 rfl rfl ?_
        refine nz_aload_n (pc := 22) (i := 0) E dX8_isSo_22 rfl rfl ?_
        refine nz_getR (pc := 23) (c := 0) (kf := 6) E rfl rfl (nz_upT nz_uX8) (by decide) (List.mem_cons_of_mem _ nz_w682) rfl rfl dX8_isSo_23 ?_
        obtain ⟨r32, x33, h34, hf⟩ := nz_bnd_t hf
        refine nz_callVI (pc := 26) (c0 := 0) (As := [.ref (q 4)]) E rfl rfl (k_X8_isTame 4 nz_p4 _ _ h34) (nz_cwV E nz_w857 nz_w859 nz_w36 nz_w67 nz_w860 ds_X8_isTame ⟨Nat.le_of_ble_eq_true rfl, Nat.le_of_ble_eq_true rfl⟩ rfl rfl) rfl rfl (Nat.le_of_ble_eq_true rfl) dX8_isSo_26 ?_
        refine nz_if_eq (pc := 29) (tgt := 36) E dX8_isSo_29 (by decide) (fun h35 => ?_) (fun h35 => ?_)
        · have hf := nz_ite_t hf h35
          refine nz_iconst (pc := 36) (v := 0) E dX8_isSo_36 (by decide) ?_
          exact nz_iret (pc := 37) E hR rfl hf dX8_isSo_37
        · have hf := nz_ite_f hf h35
          refine nz_iconst (pc := 32) (v := 1) E dX8_isSo_32 (by decide) ?_
          refine nz_goto (pc := 33) (tgt := 37) E dX8_isSo_33 (by decide) ?_
          exact nz_iret (pc := 37) E hR rfl hf dX8_isSo_37
def f_X8_does (a0 : Int32) (x : nz_S) : Option (Int32 × nz_S) :=
  let v1 : Int32 := (a0 / (100 : Int32))
  let v2 : Int32 := (a0 / (10 : Int32))
  let v3 : Int32 := (v2 - v2 / (10 : Int32) * (10 : Int32))
  let v4 : Int32 := (a0 - a0 / (10 : Int32) * (10 : Int32))
  if v1 = (1 : Int32) then
    nz_bnd (f_X8_adds  v3 v4 x) fun r6 x7 =>
    nz_chk (nz_bo r6) <|
    some (r6, x7)
  else
  if v1 = (2 : Int32) then
    nz_bnd (f_X8_cuts  v3 v4 x) fun r11 x12 =>
    nz_chk (nz_bo r11) <|
    some (r11, x12)
  else
  if v1 = (3 : Int32) then
    nz_bnd (f_X8_splits  v3 v4 x) fun r16 x17 =>
    nz_chk (nz_bo r16) <|
    some (r16, x17)
  else
    nz_bnd (f_X8_isSo  v1 v3 v4 x) fun r20 x21 =>
    nz_chk (nz_bo r20) <|
    some (r20, x21)
theorem ds_X8_does : nz_dsc yX8_does 1 := by unfold nz_dsc; decide +kernel
set_option maxHeartbeats 4000000 in
set_option maxRecDepth 20000 in
theorem k_X8_does {l : Launch} {w : nz_O} {q : Nat → Nat} (a0 : Int32) (x : nz_S) (o : Int32 × nz_S) (hf : f_X8_does a0 x = some o) : nz_MI l yX8_does (nz_T yX8_does cX8_does 5 (some .boolean)) (nz_R 6 147) w q nz_tM [.ref (q 0), .int a0] x o := by
  refine nz_enterI (by decide) rfl (Nat.le_of_ble_eq_true rfl) rfl rfl ?_
  intro κ E hw hlq hR
  subst hw; subst hlq
  unfold f_X8_does at hf
  refine nz_weak (lv' := [(0, .ref (q 0)), (1, .int a0)]) ⟨rfl, rfl, trivial⟩ ?_
  refine nz_iload_n (pc := 0) (i := 1) E dX8_does_0 rfl rfl ?_
  refine nz_bipush (pc := 1) (v := 100) E dX8_does_1 (by decide) ?_
  refine nz_idiv (pc := 3) E dX8_does_3 (by decide) ?_
  refine nz_istore_n (pc := 4) (i := 2) E dX8_does_4 rfl (by decide) rfl ?_
  refine nz_iload_n (pc := 5) (i := 1) E dX8_does_5 rfl rfl ?_
  refine nz_bipush (pc := 6) (v := 10) E dX8_does_6 (by decide) ?_
  refine nz_idiv (pc := 8) E dX8_does_8 (by decide) ?_
  refine nz_bipush (pc := 9) (v := 10) E dX8_does_9 (by decide) ?_
  refine nz_irem (pc := 11) E dX8_does_11 (by decide) ?_
  refine nz_istore_n (pc := 12) (i := 3) E dX8_does_12 rfl (by decide) rfl ?_
  refine nz_iload_n (pc := 13) (i := 1) E dX8_does_13 rfl rfl ?_
  refine nz_bipush (pc := 14) (v := 10) E dX8_does_14 (by decide) ?_
  refine nz_irem (pc := 16) E dX8_does_16 (by decide) ?_
  refine nz_istore (pc := 17) (i := 4) E dX8_does_17 (by decide) rfl ?_
  refine nz_iload_n (pc := 19) (i := 2) E dX8_does_19 rfl rfl ?_
  by_cases h5 : ((a0 / (100 : Int32))) = 1
  · have hf := nz_ite_t hf h5
    refine nz_tabIn (pc := 20) (off := 28) (tgt := 48) E dX8_does_20 (by rw [h5]; decide) (by rw [h5]; decide) (by rw [h5]; rfl) (by decide) ?_
    refine nz_aload_n (pc := 48) (i := 0) E dX8_does_48 rfl rfl ?_
    refine nz_iload_n (pc := 49) (i := 3) E dX8_does_49 rfl rfl ?_
    refine nz_iload (pc := 50) (i := 4) E dX8_does_50 rfl ?_
    obtain ⟨r6, x7, h8, hf⟩ := nz_bnd_t hf
    refine nz_callVI (pc := 52) (c0 := 0) (As := [.int _, .int _]) E rfl rfl (k_X8_adds   _ _ _ _ h8) (nz_cwV E nz_w989 nz_w991 nz_w51 nz_w67 nz_w992 ds_X8_adds ⟨Nat.le_of_ble_eq_true rfl, Nat.le_of_ble_eq_true rfl⟩ rfl rfl) rfl rfl (Nat.le_of_ble_eq_true rfl) dX8_does_52 ?_
    obtain ⟨h9, hf⟩ := nz_chk_t hf
    exact nz_iret (pc := 55) E hR (nz_narZ h9) hf dX8_does_55
  · have hf := nz_ite_f hf h5
    by_cases h10 : ((a0 / (100 : Int32))) = 2
    · have hf := nz_ite_t hf h10
      refine nz_tabIn (pc := 20) (off := 36) (tgt := 56) E dX8_does_20 (by rw [h10]; decide) (by rw [h10]; decide) (by rw [h10]; rfl) (by decide) ?_
      refine nz_aload_n (pc := 56) (i := 0) E dX8_does_56 rfl rfl ?_
      refine nz_iload_n (pc := 57) (i := 3) E dX8_does_57 rfl rfl ?_
      refine nz_iload (pc := 58) (i := 4) E dX8_does_58 rfl ?_
      obtain ⟨r11, x12, h13, hf⟩ := nz_bnd_t hf
      refine nz_callVI (pc := 60) (c0 := 0) (As := [.int _, .int _]) E rfl rfl (k_X8_cuts   _ _ _ _ h13) (nz_cwV E nz_w993 nz_w995 nz_w52 nz_w67 nz_w996 ds_X8_cuts ⟨Nat.le_of_ble_eq_true rfl, Nat.le_of_ble_eq_true rfl⟩ rfl rfl) rfl rfl (Nat.le_of_ble_eq_true rfl) dX8_does_60 ?_
      obtain ⟨h14, hf⟩ := nz_chk_t hf
      exact nz_iret (pc := 63) E hR (nz_narZ h14) hf dX8_does_63
    · have hf := nz_ite_f hf h10
      by_cases h15 : ((a0 / (100 : Int32))) = 3
      · have hf := nz_ite_t hf h15
        refine nz_tabIn (pc := 20) (off := 44) (tgt := 64) E dX8_does_20 (by rw [h15]; decide) (by rw [h15]; decide) (by rw [h15]; rfl) (by decide) ?_
        refine nz_aload_n (pc := 64) (i := 0) E dX8_does_64 rfl rfl ?_
        refine nz_iload_n (pc := 65) (i := 3) E dX8_does_65 rfl rfl ?_
        refine nz_iload (pc := 66) (i := 4) E dX8_does_66 rfl ?_
        obtain ⟨r16, x17, h18, hf⟩ := nz_bnd_t hf
        refine nz_callVI (pc := 68) (c0 := 0) (As := [.int _, .int _]) E rfl rfl (k_X8_splits   _ _ _ _ h18) (nz_cwV E nz_w997 nz_w999 nz_w53 nz_w67 nz_w1000 ds_X8_splits ⟨Nat.le_of_ble_eq_true rfl, Nat.le_of_ble_eq_true rfl⟩ rfl rfl) rfl rfl (Nat.le_of_ble_eq_true rfl) dX8_does_68 ?_
        obtain ⟨h19, hf⟩ := nz_chk_t hf
        exact nz_iret (pc := 71) E hR (nz_narZ h19) hf dX8_does_71
      · have hf := nz_ite_f hf h15
        have th5 : (((a0 / (100 : Int32)))).toInt ≠ 1 := fun e => h5 (nz_i32 (by rw [e]; decide))
        have th10 : (((a0 / (100 : Int32)))).toInt ≠ 2 := fun e => h10 (nz_i32 (by rw [e]; decide))
        have th15 : (((a0 / (100 : Int32)))).toInt ≠ 3 := fun e => h15 (nz_i32 (by rw [e]; decide))
        refine nz_tabOut (pc := 20) (tgt := 72) E dX8_does_20 (by omega) (by decide) ?_
        refine nz_aload_n (pc := 72) (i := 0) E dX8_does_72 rfl rfl ?_
        refine nz_iload_n (pc := 73) (i := 2) E dX8_does_73 rfl rfl ?_
        refine nz_iload_n (pc := 74) (i := 3) E dX8_does_74 rfl rfl ?_
        refine nz_iload (pc := 75) (i := 4) E dX8_does_75 rfl ?_
        obtain ⟨r20, x21, h22, hf⟩ := nz_bnd_t hf
        refine nz_callVI (pc := 77) (c0 := 0) (As := [.int _, .int _, .int _]) E rfl rfl (k_X8_isSo   _ _ _ _ _ h22) (nz_cwV E nz_w1001 nz_w1003 nz_w54 nz_w67 nz_w1004 ds_X8_isSo ⟨Nat.le_of_ble_eq_true rfl, Nat.le_of_ble_eq_true rfl⟩ rfl rfl) rfl rfl (Nat.le_of_ble_eq_true rfl) dX8_does_77 ?_
        obtain ⟨h23, hf⟩ := nz_chk_t hf
        exact nz_iret (pc := 80) E hR (nz_narZ h23) hf dX8_does_80
def f_X8_judge_44 (c1 : Int32) (c2 : Int64) : Nat → Int32 → nz_S → (Int32 → nz_S → Option (Int32 × nz_S)) → Option (Int32 × nz_S)
  | 0, _, _, _ => none
  | fu + 1, w4, x, K =>
  if c1 ≤ w4 then
    K w4 x
  else
    nz_bnd (f_X8_longPower  (1000 : Int64) ((c1 - (1 : Int32)) - w4) x) fun r17 x18 =>
    nz_chk (r17 != 0) <|
    let v21 : Int64 := (c2 / r17)
    nz_bnd (f_X8_does  ((v21 - v21 / (1000 : Int64) * (1000 : Int64))).toInt32 x18) fun r22 x23 =>
    if r22 = (0 : Int32) then
      some (w4, x23)
    else
      let v26 : Int32 := w4 + 1
      f_X8_judge_44 c1 c2 fu v26 x23 K
def f_X8_judge (a0 : Int32) (a1 : Int64) (x : nz_S) : Option (Int32 × nz_S) :=
  let x1 : nz_S := nz_put x 0 0 (0 : Int32)
  nz_bnd (f_X8_in  (a0).toInt64 (1 : Int64) (4 : Int64) x1) fun r2 x3 =>
  if r2 = (0 : Int32) then
    some ((-2 : Int32), x3)
  else
    nz_bnd (f_X8_longPower  (1000 : Int64) a0 x3) fun r6 x7 =>
    nz_bnd (f_X8_in  a1 (0 : Int64) (r6 - (1 : Int64)) x7) fun r9 x10 =>
    if r9 = (0 : Int32) then
      some ((-2 : Int32), x10)
    else
      nz_bnd (f_X8_begin   x10) fun r13 x14 =>
      f_X8_judge_44 a0 a1 nz_F (0 : Int32) x14 fun u28 x27 =>
        some ((-9 : Int32), x27)
theorem ds_X8_judge : nz_dsc yX8_judge 2 := by unfold nz_dsc; decide +kernel
set_option maxHeartbeats 4000000 in
set_option maxRecDepth 20000 in
theorem w_X8_judge_44 {κ : nz_C} {q : Nat → Nat} {o : Int32 × nz_S} (c1 : Int32) (c2 : Int64) (E : nz_Env κ q nz_tM 5 cX8_judge RX8 (nz_T yX8_judge cX8_judge 5 (some .int)) (nz_R 7 171)) (hR : nz_RI κ q nz_tM .int o) : ∀ (fu : Nat) (w4 : Int32) (x : nz_S) (K : Int32 → nz_S → Option (Int32 × nz_S)), f_X8_judge_44 c1 c2 fu w4 x K = some o → (∀ (w4 : Int32) (x : nz_S), K w4 x = some o → nz_St κ q nz_tM 5 85 [(0, .ref (q 0)), (1, .int c1), (2, .long c2), (4, .int w4)] [] x) → nz_St κ q nz_tM 5 44 [(0, .ref (q 0)), (1, .int c1), (2, .long c2), (4, .int w4)] [] x := by
  intro fu
  induction fu with
  | zero => intro w4 x K hf; rw [f_X8_judge_44] at hf; cases hf
  | succ fu ih =>
    intro w4 x K hf hK
    rw [f_X8_judge_44] at hf
    refine nz_iload (pc := 44) (i := 4) E dX8_judge_44 rfl ?_
    refine nz_iload_n (pc := 46) (i := 1) E dX8_judge_46 rfl rfl ?_
    refine nz_icmp_ge (pc := 47) (tgt := 85) E dX8_judge_47 (by decide) (fun h16 => ?_) (fun h16 => ?_)
    · have hf := nz_ite_t hf h16
      refine nz_weak (lv' := [(0, .ref (q 0)), (1, .int _), (2, .long _), (4, .int _)]) ⟨rfl, rfl, rfl, rfl, trivial⟩ ?_
      exact hK _ _ hf
    · have hf := nz_ite_f hf h16
      refine nz_aload_n (pc := 50) (i := 0) E dX8_judge_50 rfl rfl ?_
      refine nz_lload_n (pc := 51) (i := 2) E dX8_judge_51 rfl rfl ?_
      refine nz_ldc2 (pc := 52) E (List.mem_cons_of_mem _ nz_w981) dX8_judge_52 ?_
      refine nz_iload_n (pc := 55) (i := 1) E dX8_judge_55 rfl rfl ?_
      refine nz_iconst (pc := 56) (v := 1) E dX8_judge_56 (by decide) ?_
      refine nz_isub (pc := 57) E dX8_judge_57 ?_
      refine nz_iload (pc := 58) (i := 4) E dX8_judge_58 rfl ?_
      refine nz_isub (pc := 60) E dX8_judge_60 ?_
      obtain ⟨r17, x18, h19, hf⟩ := nz_bnd_t hf
      refine nz_callSL (pc := 61) (As := [.long _, .int _]) E (k_X8_longPower   _ _ _ _ h19) (nz_cwS E nz_w982 nz_w983 nz_w67 nz_w984 ds_X8_longPower ⟨Nat.le_of_ble_eq_true rfl, Nat.le_of_ble_eq_true rfl⟩ rfl rfl) rfl rfl (Nat.le_of_ble_eq_true rfl) dX8_judge_61 ?_
      obtain ⟨h20, hf⟩ := nz_chk_t hf
      refine nz_ldiv (pc := 64) E dX8_judge_64 h20 ?_
      refine nz_ldc2 (pc := 65) E (List.mem_cons_of_mem _ nz_w981) dX8_judge_65 ?_
      refine nz_lrem (pc := 68) E dX8_judge_68 (by decide) ?_
      refine nz_l2i (pc := 69) E dX8_judge_69 ?_
      obtain ⟨r22, x23, h24, hf⟩ := nz_bnd_t hf
      refine nz_callVI (pc := 70) (c0 := 0) (As := [.int _]) E rfl rfl (k_X8_does   _ _ _ h24) (nz_cwV E nz_w985 nz_w987 nz_w50 nz_w67 nz_w988 ds_X8_does ⟨Nat.le_of_ble_eq_true rfl, Nat.le_of_ble_eq_true rfl⟩ rfl rfl) rfl rfl (Nat.le_of_ble_eq_true rfl) dX8_judge_70 ?_
      refine nz_if_ne (pc := 73) (tgt := 79) E dX8_judge_73 (by decide) (fun h25 => ?_) (fun h25 => ?_)
      · have hf := nz_ite_f hf h25
        refine nz_iinc (pc := 79) (i := 4) (w := 1) E dX8_judge_79 rfl (by decide) (by decide) rfl ?_
        refine nz_goto (pc := 82) (tgt := 44) E dX8_judge_82 (by decide) ?_
        refine nz_weak (lv' := [(0, .ref (q 0)), (1, .int _), (2, .long _), (4, .int _)]) ⟨rfl, rfl, rfl, rfl, trivial⟩ ?_
        exact ih _ _ _ hf hK
      · have hf := nz_ite_t hf h25
        refine nz_iload (pc := 76) (i := 4) E dX8_judge_76 rfl ?_
        exact nz_iret (pc := 78) E hR rfl hf dX8_judge_78
set_option maxHeartbeats 4000000 in
set_option maxRecDepth 20000 in
theorem k_X8_judge {l : Launch} {w : nz_O} {q : Nat → Nat} (a0 : Int32) (a1 : Int64) (x : nz_S) (o : Int32 × nz_S) (hf : f_X8_judge a0 a1 x = some o) : nz_MI l yX8_judge (nz_T yX8_judge cX8_judge 5 (some .int)) (nz_R 7 171) w q nz_tM [.ref (q 0), .int a0, .long a1] x o := by
  refine nz_enterI (by decide) rfl (Nat.le_of_ble_eq_true rfl) rfl rfl ?_
  intro κ E hw hlq hR
  subst hw; subst hlq
  unfold f_X8_judge at hf
  refine nz_weak (lv' := [(0, .ref (q 0)), (1, .int a0), (2, .long a1)]) ⟨rfl, rfl, rfl, trivial⟩ ?_
  refine nz_aload_n (pc := 0) (i := 0) E dX8_judge_0 rfl rfl ?_
  refine nz_iconst (pc := 1) (v := 0) E dX8_judge_1 (by decide) ?_
  refine nz_putI (pc := 2) (c := 0) (kf := 0) E rfl rfl (nz_upT nz_uX8) (by decide) (List.mem_cons_of_mem _ nz_w676) rfl tyX8 tyX8_ok nmX8 rfl (tyX8_ok 0 (by decide)) rfl dX8_judge_2 ?_
  refine nz_iload_n (pc := 5) (i := 1) E dX8_judge_5 rfl rfl ?_
  refine nz_i2l (pc := 6) E dX8_judge_6 ?_
  refine nz_lconst (pc := 7) (v := 1) E dX8_judge_7 (by decide) ?_
  refine nz_ldc2 (pc := 8) E (List.mem_cons_of_mem _ nz_w980) dX8_judge_8 ?_
  obtain ⟨r2, x3, h4, hf⟩ := nz_bnd_t hf
  refine nz_callSI (pc := 11) (As := [.long _, .long _, .long _]) E (k_X8_in   _ _ _ _ _ h4) (nz_cwS E nz_w766 nz_w767 nz_w67 nz_w768 ds_X8_in ⟨Nat.le_of_ble_eq_true rfl, Nat.le_of_ble_eq_true rfl⟩ rfl rfl) rfl rfl (Nat.le_of_ble_eq_true rfl) dX8_judge_11 ?_
  refine nz_if_eq (pc := 14) (tgt := 34) E dX8_judge_14 (by decide) (fun h5 => ?_) (fun h5 => ?_)
  · have hf := nz_ite_t hf h5
    refine nz_bipush (pc := 34) (v := -2) E dX8_judge_34 (by decide) ?_
    exact nz_iret (pc := 36) E hR rfl hf dX8_judge_36
  · have hf := nz_ite_f hf h5
    refine nz_lload_n (pc := 17) (i := 2) E dX8_judge_17 rfl rfl ?_
    refine nz_lconst (pc := 18) (v := 0) E dX8_judge_18 (by decide) ?_
    refine nz_ldc2 (pc := 19) E (List.mem_cons_of_mem _ nz_w981) dX8_judge_19 ?_
    refine nz_iload_n (pc := 22) (i := 1) E dX8_judge_22 rfl rfl ?_
    obtain ⟨r6, x7, h8, hf⟩ := nz_bnd_t hf
    refine nz_callSL (pc := 23) (As := [.long _, .int _]) E (k_X8_longPower   _ _ _ _ h8) (nz_cwS E nz_w982 nz_w983 nz_w67 nz_w984 ds_X8_longPower ⟨Nat.le_of_ble_eq_true rfl, Nat.le_of_ble_eq_true rfl⟩ rfl rfl) rfl rfl (Nat.le_of_ble_eq_true rfl) dX8_judge_23 ?_
    refine nz_lconst (pc := 26) (v := 1) E dX8_judge_26 (by decide) ?_
    refine nz_lsub (pc := 27) E dX8_judge_27 ?_
    obtain ⟨r9, x10, h11, hf⟩ := nz_bnd_t hf
    refine nz_callSI (pc := 28) (As := [.long _, .long _, .long _]) E (k_X8_in   _ _ _ _ _ h11) (nz_cwS E nz_w766 nz_w767 nz_w67 nz_w768 ds_X8_in ⟨Nat.le_of_ble_eq_true rfl, Nat.le_of_ble_eq_true rfl⟩ rfl rfl) rfl rfl (Nat.le_of_ble_eq_true rfl) dX8_judge_28 ?_
    refine nz_if_ne (pc := 31) (tgt := 37) E dX8_judge_31 (by decide) (fun h12 => ?_) (fun h12 => ?_)
    · have hf := nz_ite_f hf h12
      refine nz_aload_n (pc := 37) (i := 0) E dX8_judge_37 rfl rfl ?_
      obtain ⟨r13, x14, h15, hf⟩ := nz_bnd_t hf
      refine nz_callVV (pc := 38) (c0 := 0) (As := []) E rfl rfl (k_X8_begin   _ _ h15) (nz_cwV E nz_w972 nz_w974 nz_w49 nz_w67 nz_w975 ds_X8_begin ⟨Nat.le_of_ble_eq_true rfl, Nat.le_of_ble_eq_true rfl⟩ rfl rfl) rfl rfl (Nat.le_of_ble_eq_true rfl) dX8_judge_38 ?_
      refine nz_iconst (pc := 41) (v := 0) E dX8_judge_41 (by decide) ?_
      refine nz_istore (pc := 42) (i := 4) E dX8_judge_42 (by decide) rfl ?_
      refine nz_weak (lv' := [(0, .ref (q 0)), (1, .int _), (2, .long _), (4, .int _)]) ⟨rfl, rfl, rfl, rfl, trivial⟩ ?_
      refine w_X8_judge_44 _ _ E hR _ _ _ _ hf (fun u28 x27 hf => ?_)
      refine nz_bipush (pc := 85) (v := -9) E dX8_judge_85 (by decide) ?_
      exact nz_iret (pc := 87) E hR rfl hf dX8_judge_87
    · have hf := nz_ite_t hf h12
      refine nz_bipush (pc := 34) (v := -2) E dX8_judge_34 (by decide) ?_
      exact nz_iret (pc := 36) E hR rfl hf dX8_judge_36
def f_X8_ways_4 (c0 : Int32) : Nat → Int32 → Int32 → nz_S → (Int32 → Int32 → nz_S → Option (Int32 × nz_S)) → Option (Int32 × nz_S)
  | 0, _, _, _, _ => none
  | fu + 1, w1, w2, x, K =>
  if c0 < w2 then
    K w1 w2 x
  else
    let v2 : Int32 := (w1 * w2)
    let v3 : Int32 := w2 + 1
    f_X8_ways_4 c0 fu v2 v3 x K
def f_X8_ways (a0 : Int32) (x : nz_S) : Option (Int32 × nz_S) :=
  f_X8_ways_4 a0 nz_F (1 : Int32) (2 : Int32) x fun u5 u6 x4 =>
    some (u5, x4)
theorem ds_X8_ways : nz_dsc yX8_ways 1 := by unfold nz_dsc; decide +kernel
set_option maxHeartbeats 4000000 in
set_option maxRecDepth 20000 in
theorem w_X8_ways_4 {κ : nz_C} {q : Nat → Nat} {o : Int32 × nz_S} (c0 : Int32) (E : nz_Env κ q nz_tM 3 cX8_ways RX8 (nz_T yX8_ways cX8_ways 3 (some .int)) (nz_R 0 0)) (hR : nz_RI κ q nz_tM .int o) : ∀ (fu : Nat) (w1 : Int32) (w2 : Int32) (x : nz_S) (K : Int32 → Int32 → nz_S → Option (Int32 × nz_S)), f_X8_ways_4 c0 fu w1 w2 x K = some o → (∀ (w1 : Int32) (w2 : Int32) (x : nz_S), K w1 w2 x = some o → nz_St κ q nz_tM 3 19 [(0, .int c0), (1, .int w1), (2, .int w2)] [] x) → nz_St κ q nz_tM 3 4 [(0, .int c0), (1, .int w1), (2, .int w2)] [] x := by
  intro fu
  induction fu with
  | zero => intro w1 w2 x K hf; rw [f_X8_ways_4] at hf; cases hf
  | succ fu ih =>
    intro w1 w2 x K hf hK
    rw [f_X8_ways_4] at hf
    refine nz_iload_n (pc := 4) (i := 2) E dX8_ways_4 rfl rfl ?_
    refine nz_iload_n (pc := 5) (i := 0) E dX8_ways_5 rfl rfl ?_
    refine nz_icmp_gt (pc := 6) (tgt := 19) E dX8_ways_6 (by decide) (fun h1 => ?_) (fun h1 => ?_)
    · have hf := nz_ite_t hf h1
      refine nz_weak (lv' := [(0, .int _), (1, .int _), (2, .int _)]) ⟨rfl, rfl, rfl, trivial⟩ ?_
      exact hK _ _ _ hf
    · have hf := nz_ite_f hf h1
      refine nz_iload_n (pc := 9) (i := 1) E dX8_ways_9 rfl rfl ?_
      refine nz_iload_n (pc := 10) (i := 2) E dX8_ways_10 rfl rfl ?_
      refine nz_imul (pc := 11) E dX8_ways_11 ?_
      refine nz_istore_n (pc := 12) (i := 1) E dX8_ways_12 rfl (by decide) rfl ?_
      refine nz_iinc (pc := 13) (i := 2) (w := 1) E dX8_ways_13 rfl (by decide) (by decide) rfl ?_
      refine nz_goto (pc := 16) (tgt := 4) E dX8_ways_16 (by decide) ?_
      refine nz_weak (lv' := [(0, .int _), (1, .int _), (2, .int _)]) ⟨rfl, rfl, rfl, trivial⟩ ?_
      exact ih _ _ _ _ hf hK
set_option maxHeartbeats 4000000 in
set_option maxRecDepth 20000 in
theorem k_X8_ways {l : Launch} {w : nz_O} {q : Nat → Nat} (a0 : Int32) (x : nz_S) (o : Int32 × nz_S) (hf : f_X8_ways a0 x = some o) : nz_MI l yX8_ways (nz_T yX8_ways cX8_ways 3 (some .int)) (nz_R 0 0) w q nz_tM [.int a0] x o := by
  refine nz_enterI (by decide) rfl (Nat.le_of_ble_eq_true rfl) rfl rfl ?_
  intro κ E hw hlq hR
  subst hw; subst hlq
  unfold f_X8_ways at hf
  refine nz_weak (lv' := [(0, .int a0)]) ⟨rfl, trivial⟩ ?_
  refine nz_iconst (pc := 0) (v := 1) E dX8_ways_0 (by decide) ?_
  refine nz_istore_n (pc := 1) (i := 1) E dX8_ways_1 rfl (by decide) rfl ?_
  refine nz_iconst (pc := 2) (v := 2) E dX8_ways_2 (by decide) ?_
  refine nz_istore_n (pc := 3) (i := 2) E dX8_ways_3 rfl (by decide) rfl ?_
  refine nz_weak (lv' := [(0, .int _), (1, .int _), (2, .int _)]) ⟨rfl, rfl, rfl, trivial⟩ ?_
  refine w_X8_ways_4 _ E hR _ _ _ _ _ hf (fun u5 u6 x4 hf => ?_)
  refine nz_iload_n (pc := 19) (i := 1) E dX8_ways_19 rfl rfl ?_
  exact nz_iret (pc := 20) E hR rfl hf dX8_ways_20
def f_X8_divisor_13 : Nat → Int32 → Int32 → nz_S → (Int32 → Int32 → nz_S → Option (Int32 × nz_S)) → Option (Int32 × nz_S)
  | 0, _, _, _, _ => none
  | fu + 1, w2, w3, x, K =>
  if w3 = (0 : Int32) then
    K w2 w3 x
  else
    nz_chk (w3 != 0) <|
    let v4 : Int32 := (w2 - w2 / w3 * w3)
    f_X8_divisor_13 fu w3 v4 x K
def f_X8_divisor (a0 : Int32) (a1 : Int32) (x : nz_S) : Option (Int32 × nz_S) :=
  if (0 : Int32) ≤ a0 then
    f_X8_divisor_13 nz_F a0 a1 x fun u6 u7 x5 =>
      some (u6, x5)
  else
    let v8 : Int32 := (-a0)
    f_X8_divisor_13 nz_F v8 a1 x fun u10 u11 x9 =>
      some (u10, x9)
theorem ds_X8_divisor : nz_dsc yX8_divisor 2 := by unfold nz_dsc; decide +kernel
set_option maxHeartbeats 4000000 in
set_option maxRecDepth 20000 in
theorem w_X8_divisor_13 {κ : nz_C} {q : Nat → Nat} {o : Int32 × nz_S} (E : nz_Env κ q nz_tM 5 cX8_divisor RX8 (nz_T yX8_divisor cX8_divisor 5 (some .int)) (nz_R 0 0)) (hR : nz_RI κ q nz_tM .int o) : ∀ (fu : Nat) (w2 : Int32) (w3 : Int32) (x : nz_S) (K : Int32 → Int32 → nz_S → Option (Int32 × nz_S)), f_X8_divisor_13 fu w2 w3 x K = some o → (∀ (w2 : Int32) (w3 : Int32) (x : nz_S), K w2 w3 x = some o → nz_St κ q nz_tM 5 30 [(2, .int w2), (3, .int w3)] [] x) → nz_St κ q nz_tM 5 13 [(2, .int w2), (3, .int w3)] [] x := by
  intro fu
  induction fu with
  | zero => intro w2 w3 x K hf; rw [f_X8_divisor_13] at hf; cases hf
  | succ fu ih =>
    intro w2 w3 x K hf hK
    rw [f_X8_divisor_13] at hf
    refine nz_iload_n (pc := 13) (i := 3) E dX8_divisor_13 rfl rfl ?_
    refine nz_if_eq (pc := 14) (tgt := 30) E dX8_divisor_14 (by decide) (fun h2 => ?_) (fun h2 => ?_)
    · have hf := nz_ite_t hf h2
      refine nz_weak (lv' := [(2, .int _), (3, .int _)]) ⟨rfl, rfl, trivial⟩ ?_
      exact hK _ _ _ hf
    · have hf := nz_ite_f hf h2
      refine nz_iload_n (pc := 17) (i := 2) E dX8_divisor_17 rfl rfl ?_
      refine nz_iload_n (pc := 18) (i := 3) E dX8_divisor_18 rfl rfl ?_
      obtain ⟨h3, hf⟩ := nz_chk_t hf
      refine nz_irem (pc := 19) E dX8_divisor_19 h3 ?_
      refine nz_istore (pc := 20) (i := 4) E dX8_divisor_20 (by decide) rfl ?_
      refine nz_iload_n (pc := 22) (i := 3) E dX8_divisor_22 rfl rfl ?_
      refine nz_istore_n (pc := 23) (i := 2) E dX8_divisor_23 rfl (by decide) rfl ?_
      refine nz_iload (pc := 24) (i := 4) E dX8_divisor_24 rfl ?_
      refine nz_istore_n (pc := 26) (i := 3) E dX8_divisor_26 rfl (by decide) rfl ?_
      refine nz_goto (pc := 27) (tgt := 13) E dX8_divisor_27 (by decide) ?_
      refine nz_weak (lv' := [(2, .int _), (3, .int _)]) ⟨rfl, rfl, trivial⟩ ?_
      exact ih _ _ _ _ hf hK
set_option maxHeartbeats 4000000 in
set_option maxRecDepth 20000 in
theorem k_X8_divisor {l : Launch} {w : nz_O} {q : Nat → Nat} (a0 : Int32) (a1 : Int32) (x : nz_S) (o : Int32 × nz_S) (hf : f_X8_divisor a0 a1 x = some o) : nz_MI l yX8_divisor (nz_T yX8_divisor cX8_divisor 5 (some .int)) (nz_R 0 0) w q nz_tM [.int a0, .int a1] x o := by
  refine nz_enterI (by decide) rfl (Nat.le_of_ble_eq_true rfl) rfl rfl ?_
  intro κ E hw hlq hR
  subst hw; subst hlq
  unfold f_X8_divisor at hf
  refine nz_weak (lv' := [(0, .int a0), (1, .int a1)]) ⟨rfl, rfl, trivial⟩ ?_
  refine nz_iload_n (pc := 0) (i := 0) E dX8_divisor_0 rfl rfl ?_
  refine nz_if_ge (pc := 1) (tgt := 9) E dX8_divisor_1 (by decide) (fun h1 => ?_) (fun h1 => ?_)
  · have hf := nz_ite_t hf h1
    refine nz_iload_n (pc := 9) (i := 0) E dX8_divisor_9 rfl rfl ?_
    refine nz_istore_n (pc := 10) (i := 2) E dX8_divisor_10 rfl (by decide) rfl ?_
    refine nz_iload_n (pc := 11) (i := 1) E dX8_divisor_11 rfl rfl ?_
    refine nz_istore_n (pc := 12) (i := 3) E dX8_divisor_12 rfl (by decide) rfl ?_
    refine nz_weak (lv' := [(2, .int _), (3, .int _)]) ⟨rfl, rfl, trivial⟩ ?_
    refine w_X8_divisor_13 E hR _ _ _ _ _ hf (fun u6 u7 x5 hf => ?_)
    refine nz_iload_n (pc := 30) (i := 2) E dX8_divisor_30 rfl rfl ?_
    exact nz_iret (pc := 31) E hR rfl hf dX8_divisor_31
  · have hf := nz_ite_f hf h1
    refine nz_iload_n (pc := 4) (i := 0) E dX8_divisor_4 rfl rfl ?_
    refine nz_ineg (pc := 5) E dX8_divisor_5 ?_
    refine nz_goto (pc := 6) (tgt := 10) E dX8_divisor_6 (by decide) ?_
    refine nz_istore_n (pc := 10) (i := 2) E dX8_divisor_10 rfl (by decide) rfl ?_
    refine nz_iload_n (pc := 11) (i := 1) E dX8_divisor_11 rfl rfl ?_
    refine nz_istore_n (pc := 12) (i := 3) E dX8_divisor_12 rfl (by decide) rfl ?_
    refine nz_weak (lv' := [(2, .int _), (3, .int _)]) ⟨rfl, rfl, trivial⟩ ?_
    refine w_X8_divisor_13 E hR _ _ _ _ _ hf (fun u10 u11 x9 hf => ?_)
    refine nz_iload_n (pc := 30) (i := 2) E dX8_divisor_30 rfl rfl ?_
    exact nz_iret (pc := 31) E hR rfl hf dX8_divisor_31
def f_X8_fraction (a0 : Int32) (a1 : Int32) (a2 : Int32) (x : nz_S) : Option (Int32 × nz_S) :=
  nz_bnd (f_X8_divisor  a0 a1 x) fun r1 x2 =>
  if a2 = (0 : Int32) then
    nz_chk (r1 != 0) <|
    some ((a1 / r1), x2)
  else
    nz_chk (r1 != 0) <|
    some ((a0 / r1), x2)
theorem ds_X8_fraction : nz_dsc yX8_fraction 3 := by unfold nz_dsc; decide +kernel
set_option maxHeartbeats 4000000 in
set_option maxRecDepth 20000 in
theorem k_X8_fraction {l : Launch} {w : nz_O} {q : Nat → Nat} (a0 : Int32) (a1 : Int32) (a2 : Int32) (x : nz_S) (o : Int32 × nz_S) (hf : f_X8_fraction a0 a1 a2 x = some o) : nz_MI l yX8_fraction (nz_T yX8_fraction cX8_fraction 4 (some .int)) (nz_R 1 24) w q nz_tM [.int a0, .int a1, .int a2] x o := by
  refine nz_enterI (by decide) rfl (Nat.le_of_ble_eq_true rfl) rfl rfl ?_
  intro κ E hw hlq hR
  subst hw; subst hlq
  unfold f_X8_fraction at hf
  refine nz_weak (lv' := [(0, .int a0), (1, .int a1), (2, .int a2)]) ⟨rfl, rfl, rfl, trivial⟩ ?_
  refine nz_iload_n (pc := 0) (i := 0) E dX8_fraction_0 rfl rfl ?_
  refine nz_iload_n (pc := 1) (i := 1) E dX8_fraction_1 rfl rfl ?_
  obtain ⟨r1, x2, h3, hf⟩ := nz_bnd_t hf
  refine nz_callSI (pc := 2) (As := [.int _, .int _]) E (k_X8_divisor   _ _ _ _ h3) (nz_cwS E nz_w1022 nz_w1023 nz_w67 nz_w1024 ds_X8_divisor ⟨Nat.le_of_ble_eq_true rfl, Nat.le_of_ble_eq_true rfl⟩ rfl rfl) rfl rfl (Nat.le_of_ble_eq_true rfl) dX8_fraction_2 ?_
  refine nz_istore_n (pc := 5) (i := 3) E dX8_fraction_5 rfl (by decide) rfl ?_
  refine nz_iload_n (pc := 6) (i := 2) E dX8_fraction_6 rfl rfl ?_
  refine nz_if_eq (pc := 7) (tgt := 16) E dX8_fraction_7 (by decide) (fun h4 => ?_) (fun h4 => ?_)
  · have hf := nz_ite_t hf h4
    refine nz_iload_n (pc := 16) (i := 1) E dX8_fraction_16 rfl rfl ?_
    refine nz_iload_n (pc := 17) (i := 3) E dX8_fraction_17 rfl rfl ?_
    obtain ⟨h5, hf⟩ := nz_chk_t hf
    refine nz_idiv (pc := 18) E dX8_fraction_18 h5 ?_
    exact nz_iret (pc := 19) E hR rfl hf dX8_fraction_19
  · have hf := nz_ite_f hf h4
    refine nz_iload_n (pc := 10) (i := 0) E dX8_fraction_10 rfl rfl ?_
    refine nz_iload_n (pc := 11) (i := 3) E dX8_fraction_11 rfl rfl ?_
    obtain ⟨h6, hf⟩ := nz_chk_t hf
    refine nz_idiv (pc := 12) E dX8_fraction_12 h6 ?_
    refine nz_goto (pc := 13) (tgt := 19) E dX8_fraction_13 (by decide) ?_
    exact nz_iret (pc := 19) E hR rfl hf dX8_fraction_19
def f_X8_keepArcs_16 (c1 : Int32) (c2 : Int32) : Nat → Int32 → nz_S → (Int32 → nz_S → Option (Unit × nz_S)) → Option (Unit × nz_S)
  | 0, _, _, _ => none
  | fu + 1, w3, x, K =>
  let v7 : Int32 := ((13 : Int32) + c1)
  nz_chk (nz_in v7 61) <|
  if (x.1 3 (v7).toNatClampNeg) ≤ w3 then
    K w3 x
  else
    nz_bnd (f_X8_has  c2 w3 x) fun r10 x11 =>
    if r10 = (0 : Int32) then
      let v14 : Int32 := w3 + 1
      f_X8_keepArcs_16 c1 c2 fu v14 x11 K
    else
      let v15 : Int32 := (((25 : Int32) + ((3 : Int32) * c1)) + w3)
      nz_chk (nz_in v15 61) <|
      nz_bnd (f_X8_goAdd 4 c1 (x11.1 3 (v15).toNatClampNeg) x11) fun r17 x18 =>
      let v20 : Int32 := w3 + 1
      f_X8_keepArcs_16 c1 c2 fu v20 x18 K
def f_X8_keepArcs (a0 : Int32) (a1 : Int32) (x : nz_S) : Option (Unit × nz_S) :=
  nz_bnd (f_X8_begin   x) fun r1 x2 =>
  let v4 : Int32 := ((13 : Int32) + a0)
  nz_chk (nz_in v4 61) <|
  let x6 : nz_S := nz_put x2 4 (v4).toNatClampNeg (0 : Int32)
  f_X8_keepArcs_16 a0 a1 nz_F (0 : Int32) x6 fun u22 x21 =>
    some ((), x21)
theorem ds_X8_keepArcs : nz_dsc yX8_keepArcs 2 := by unfold nz_dsc; decide +kernel
set_option maxHeartbeats 4000000 in
set_option maxRecDepth 20000 in
theorem w_X8_keepArcs_16 {κ : nz_C} {q : Nat → Nat} {o : Unit × nz_S} (c1 : Int32) (c2 : Int32) (E : nz_Env κ q nz_tM 4 cX8_keepArcs RX8 (nz_T yX8_keepArcs cX8_keepArcs 4 (none)) (nz_R 1 22)) (hR : nz_RV κ q nz_tM o) : ∀ (fu : Nat) (w3 : Int32) (x : nz_S) (K : Int32 → nz_S → Option (Unit × nz_S)), f_X8_keepArcs_16 c1 c2 fu w3 x K = some o → (∀ (w3 : Int32) (x : nz_S), K w3 x = some o → nz_St κ q nz_tM 4 64 [(0, .ref (q 0)), (1, .int c1), (2, .int c2), (3, .int w3)] [] x) → nz_St κ q nz_tM 4 16 [(0, .ref (q 0)), (1, .int c1), (2, .int c2), (3, .int w3)] [] x := by
  intro fu
  induction fu with
  | zero => intro w3 x K hf; rw [f_X8_keepArcs_16] at hf; cases hf
  | succ fu ih =>
    intro w3 x K hf hK
    rw [f_X8_keepArcs_16] at hf
    refine nz_iload_n (pc := 16) (i := 3) E dX8_keepArcs_16 rfl rfl ?_
    refine nz_aload_n (pc := 17) (i := 0) E dX8_keepArcs_17 rfl rfl ?_
    refine nz_getR (pc := 18) (c := 0) (kf := 5) E rfl rfl (nz_upT nz_uX8) (by decide) (List.mem_cons_of_mem _ nz_w681) rfl rfl dX8_keepArcs_18 ?_
    refine nz_bipush (pc := 21) (v := 13) E dX8_keepArcs_21 (by decide) ?_
    refine nz_iload_n (pc := 23) (i := 1) E dX8_keepArcs_23 rfl rfl ?_
    refine nz_iadd (pc := 24) E dX8_keepArcs_24 ?_
    obtain ⟨h8, hf⟩ := nz_chk_t hf
    refine nz_iald (pc := 25) (c := 3) E rfl h8 dX8_keepArcs_25 ?_
    refine nz_icmp_ge (pc := 26) (tgt := 64) E dX8_keepArcs_26 (by decide) (fun h9 => ?_) (fun h9 => ?_)
    · have hf := nz_ite_t hf h9
      refine nz_weak (lv' := [(0, .ref (q 0)), (1, .int _), (2, .int _), (3, .int _)]) ⟨rfl, rfl, rfl, rfl, trivial⟩ ?_
      exact hK _ _ hf
    · have hf := nz_ite_f hf h9
      refine nz_iload_n (pc := 29) (i := 2) E dX8_keepArcs_29 rfl rfl ?_
      refine nz_iload_n (pc := 30) (i := 3) E dX8_keepArcs_30 rfl rfl ?_
      obtain ⟨r10, x11, h12, hf⟩ := nz_bnd_t hf
      refine nz_callSI (pc := 31) (As := [.int _, .int _]) E (k_X8_has   _ _ _ _ h12) (nz_cwS E nz_w831 nz_w832 nz_w67 nz_w833 ds_X8_has ⟨Nat.le_of_ble_eq_true rfl, Nat.le_of_ble_eq_true rfl⟩ rfl rfl) rfl rfl (Nat.le_of_ble_eq_true rfl) dX8_keepArcs_31 ?_
      refine nz_if_eq (pc := 34) (tgt := 58) E dX8_keepArcs_34 (by decide) (fun h13 => ?_) (fun h13 => ?_)
      · have hf := nz_ite_t hf h13
        refine nz_iinc (pc := 58) (i := 3) (w := 1) E dX8_keepArcs_58 rfl (by decide) (by decide) rfl ?_
        refine nz_goto (pc := 61) (tgt := 16) E dX8_keepArcs_61 (by decide) ?_
        refine nz_weak (lv' := [(0, .ref (q 0)), (1, .int _), (2, .int _), (3, .int _)]) ⟨rfl, rfl, rfl, rfl, trivial⟩ ?_
        exact ih _ _ _ hf hK
      · have hf := nz_ite_f hf h13
        refine nz_aload_n (pc := 37) (i := 0) E dX8_keepArcs_37 rfl rfl ?_
        refine nz_getR (pc := 38) (c := 0) (kf := 6) E rfl rfl (nz_upT nz_uX8) (by decide) (List.mem_cons_of_mem _ nz_w682) rfl rfl dX8_keepArcs_38 ?_
        refine nz_iload_n (pc := 41) (i := 1) E dX8_keepArcs_41 rfl rfl ?_
        refine nz_aload_n (pc := 42) (i := 0) E dX8_keepArcs_42 rfl rfl ?_
        refine nz_getR (pc := 43) (c := 0) (kf := 5) E rfl rfl (nz_upT nz_uX8) (by decide) (List.mem_cons_of_mem _ nz_w681) rfl rfl dX8_keepArcs_43 ?_
        refine nz_bipush (pc := 46) (v := 25) E dX8_keepArcs_46 (by decide) ?_
        refine nz_iconst (pc := 48) (v := 3) E dX8_keepArcs_48 (by decide) ?_
        refine nz_iload_n (pc := 49) (i := 1) E dX8_keepArcs_49 rfl rfl ?_
        refine nz_imul (pc := 50) E dX8_keepArcs_50 ?_
        refine nz_iadd (pc := 51) E dX8_keepArcs_51 ?_
        refine nz_iload_n (pc := 52) (i := 3) E dX8_keepArcs_52 rfl rfl ?_
        refine nz_iadd (pc := 53) E dX8_keepArcs_53 ?_
        obtain ⟨h16, hf⟩ := nz_chk_t hf
        refine nz_iald (pc := 54) (c := 3) E rfl h16 dX8_keepArcs_54 ?_
        obtain ⟨r17, x18, h19, hf⟩ := nz_bnd_t hf
        refine nz_callSV (pc := 55) (As := [.ref (q 4), .int _, .int _]) E (k_X8_goAdd 4 nz_p4 _ _ _ _ h19) (nz_cwS E nz_w908 nz_w909 nz_w67 nz_w910 ds_X8_goAdd ⟨Nat.le_of_ble_eq_true rfl, Nat.le_of_ble_eq_true rfl⟩ rfl rfl) rfl rfl (Nat.le_of_ble_eq_true rfl) dX8_keepArcs_55 ?_
        refine nz_iinc (pc := 58) (i := 3) (w := 1) E dX8_keepArcs_58 rfl (by decide) (by decide) rfl ?_
        refine nz_goto (pc := 61) (tgt := 16) E dX8_keepArcs_61 (by decide) ?_
        refine nz_weak (lv' := [(0, .ref (q 0)), (1, .int _), (2, .int _), (3, .int _)]) ⟨rfl, rfl, rfl, rfl, trivial⟩ ?_
        exact ih _ _ _ hf hK
set_option maxHeartbeats 4000000 in
set_option maxRecDepth 20000 in
theorem k_X8_keepArcs {l : Launch} {w : nz_O} {q : Nat → Nat} (a0 : Int32) (a1 : Int32) (x : nz_S) (o : Unit × nz_S) (hf : f_X8_keepArcs a0 a1 x = some o) : nz_MV l yX8_keepArcs (nz_T yX8_keepArcs cX8_keepArcs 4 (none)) (nz_R 1 22) w q nz_tM [.ref (q 0), .int a0, .int a1] x o := by
  refine nz_enterV (by decide) rfl (Nat.le_of_ble_eq_true rfl) rfl rfl ?_
  intro κ E hw hlq hR
  subst hw; subst hlq
  unfold f_X8_keepArcs at hf
  refine nz_weak (lv' := [(0, .ref (q 0)), (1, .int a0), (2, .int a1)]) ⟨rfl, rfl, rfl, trivial⟩ ?_
  refine nz_aload_n (pc := 0) (i := 0) E dX8_keepArcs_0 rfl rfl ?_
  obtain ⟨r1, x2, h3, hf⟩ := nz_bnd_t hf
  refine nz_callVV (pc := 1) (c0 := 0) (As := []) E rfl rfl (k_X8_begin   _ _ h3) (nz_cwV E nz_w972 nz_w974 nz_w49 nz_w67 nz_w975 ds_X8_begin ⟨Nat.le_of_ble_eq_true rfl, Nat.le_of_ble_eq_true rfl⟩ rfl rfl) rfl rfl (Nat.le_of_ble_eq_true rfl) dX8_keepArcs_1 ?_
  refine nz_aload_n (pc := 4) (i := 0) E dX8_keepArcs_4 rfl rfl ?_
  refine nz_getR (pc := 5) (c := 0) (kf := 6) E rfl rfl (nz_upT nz_uX8) (by decide) (List.mem_cons_of_mem _ nz_w682) rfl rfl dX8_keepArcs_5 ?_
  refine nz_bipush (pc := 8) (v := 13) E dX8_keepArcs_8 (by decide) ?_
  refine nz_iload_n (pc := 10) (i := 1) E dX8_keepArcs_10 rfl rfl ?_
  refine nz_iadd (pc := 11) E dX8_keepArcs_11 ?_
  refine nz_iconst (pc := 12) (v := 0) E dX8_keepArcs_12 (by decide) ?_
  obtain ⟨h5, hf⟩ := nz_chk_t hf
  refine nz_iast (pc := 13) (c := 4) E rfl h5 dX8_keepArcs_13 ?_
  refine nz_iconst (pc := 14) (v := 0) E dX8_keepArcs_14 (by decide) ?_
  refine nz_istore_n (pc := 15) (i := 3) E dX8_keepArcs_15 rfl (by decide) rfl ?_
  refine nz_weak (lv' := [(0, .ref (q 0)), (1, .int _), (2, .int _), (3, .int _)]) ⟨rfl, rfl, rfl, rfl, trivial⟩ ?_
  refine w_X8_keepArcs_16 _ _ E hR _ _ _ _ hf (fun u22 x21 hf => ?_)
  exact nz_vret (pc := 64) E hR hf dX8_keepArcs_64
def f_X8_share_30 (c1 : Int32) (c2 : Int32) (c3 : Int32) (c4 : Int32) : Nat → Int32 → nz_S → (Int32 → nz_S → Option (Int32 × nz_S)) → Option (Int32 × nz_S)
  | 0, _, _, _ => none
  | fu + 1, w5, x, K =>
  if ((1 : Int32) <<< (c4 &&& 31)) ≤ w5 then
    K w5 x
  else
    nz_bnd (f_X8_keepArcs  c1 w5 x) fun r10 x11 =>
    nz_bnd (f_X8_find 4  x11) fun r13 x14 =>
    nz_bnd (f_X8_kinds  (1 : Int32) x14) fun r16 x17 =>
    nz_chk (nz_in w5 8) <|
    let x20 : nz_S := nz_put x17 19 (w5).toNatClampNeg r16
    let v21 : Int32 := w5 + 1
    f_X8_share_30 c1 c2 c3 c4 fu v21 x20 K
def f_X8_share_78 (c2 : Int32) (c3 : Int32) (c4 : Int32) : Nat → Int32 → Int32 → nz_S → (Int32 → Int32 → nz_S → Option (Int32 × nz_S)) → Option (Int32 × nz_S)
  | 0, _, _, _, _ => none
  | fu + 1, w5, w6, x, K =>
  if ((1 : Int32) <<< (c4 &&& 31)) ≤ w6 then
    K w5 w6 x
  else
    nz_bnd (f_X8_has  w6 c2 x) fun r25 x26 =>
    if r25 = (0 : Int32) then
      nz_bnd (f_X8_many  w6 x26) fun r30 x31 =>
      nz_bnd (f_X8_ways  r30 x31) fun r33 x34 =>
      nz_bnd (f_X8_ways  ((c4 - (1 : Int32)) - r30) x34) fun r36 x37 =>
      let v39 : Int32 := (w6 ||| ((1 : Int32) <<< (c2 &&& 31)))
      nz_chk (nz_in v39 8) <|
      nz_chk (nz_in w6 8) <|
      let v42 : Int32 := (w5 + ((r33 * r36) * ((x37.1 19 (v39).toNatClampNeg) - (x37.1 19 (w6).toNatClampNeg))))
      let v43 : Int32 := w6 + 1
      f_X8_share_78 c2 c3 c4 fu v42 v43 x37 K
    else
      let v29 : Int32 := w6 + 1
      f_X8_share_78 c2 c3 c4 fu w5 v29 x26 K
def f_X8_share (a0 : Int32) (a1 : Int32) (a2 : Int32) (x : nz_S) : Option (Int32 × nz_S) :=
  let x1 : nz_S := nz_put x 0 0 (0 : Int32)
  nz_bnd (f_X8_noArc  a0 a1 x1) fun r2 x3 =>
  if r2 = (0 : Int32) then
    let v6 : Int32 := ((13 : Int32) + a0)
    nz_chk (nz_in v6 61) <|
    let v8 : Int32 := (x3.1 3 (v6).toNatClampNeg)
    f_X8_share_30 a0 a1 a2 v8 nz_F (0 : Int32) x3 fun u23 x22 =>
      f_X8_share_78 a1 a2 v8 nz_F (0 : Int32) (0 : Int32) x22 fun u45 u46 x44 =>
        nz_bnd (f_X8_ways  v8 x44) fun r47 x48 =>
        nz_bnd (f_X8_fraction  u45 r47 a2 x48) fun r50 x51 =>
        some (r50, x51)
  else
    some ((-1 : Int32), x3)
theorem ds_X8_share : nz_dsc yX8_share 3 := by unfold nz_dsc; decide +kernel
set_option maxHeartbeats 4000000 in
set_option maxRecDepth 20000 in
theorem w_X8_share_30 {κ : nz_C} {q : Nat → Nat} {o : Int32 × nz_S} (c1 : Int32) (c2 : Int32) (c3 : Int32) (c4 : Int32) (E : nz_Env κ q nz_tM 8 cX8_share RX8 (nz_T yX8_share cX8_share 8 (some .int)) (nz_R 5 124)) (hR : nz_RI κ q nz_tM .int o) : ∀ (fu : Nat) (w5 : Int32) (x : nz_S) (K : Int32 → nz_S → Option (Int32 × nz_S)), f_X8_share_30 c1 c2 c3 c4 fu w5 x K = some o → (∀ (w5 : Int32) (x : nz_S), K w5 x = some o → nz_St κ q nz_tM 8 72 [(0, .ref (q 0)), (1, .int c1), (2, .int c2), (3, .int c3), (4, .int c4), (5, .int w5)] [] x) → nz_St κ q nz_tM 8 30 [(0, .ref (q 0)), (1, .int c1), (2, .int c2), (3, .int c3), (4, .int c4), (5, .int w5)] [] x := by
  intro fu
  induction fu with
  | zero => intro w5 x K hf; rw [f_X8_share_30] at hf; cases hf
  | succ fu ih =>
    intro w5 x K hf hK
    rw [f_X8_share_30] at hf
    refine nz_iload (pc := 30) (i := 5) E dX8_share_30 rfl ?_
    refine nz_iconst (pc := 32) (v := 1) E dX8_share_32 (by decide) ?_
    refine nz_iload (pc := 33) (i := 4) E dX8_share_33 rfl ?_
    refine nz_ishl (pc := 35) E dX8_share_35 ?_
    refine nz_icmp_ge (pc := 36) (tgt := 72) E dX8_share_36 (by decide) (fun h9 => ?_) (fun h9 => ?_)
    · have hf := nz_ite_t hf h9
      refine nz_weak (lv' := [(0, .ref (q 0)), (1, .int _), (2, .int _), (3, .int _), (4, .int _), (5, .int _)]) ⟨rfl, rfl, rfl, rfl, rfl, rfl, trivial⟩ ?_
      exact hK _ _ hf
    · have hf := nz_ite_f hf h9
      refine nz_aload_n (pc := 39) (i := 0) E dX8_share_39 rfl rfl ?_
      refine nz_iload_n (pc := 40) (i := 1) E dX8_share_40 rfl rfl ?_
      refine nz_iload (pc := 41) (i := 5) E dX8_share_41 rfl ?_
      obtain ⟨r10, x11, h12, hf⟩ := nz_bnd_t hf
      refine nz_callVV (pc := 43) (c0 := 0) (As := [.int _, .int _]) E rfl rfl (k_X8_keepArcs   _ _ _ _ h12) (nz_cwV E nz_w1009 nz_w1011 nz_w55 nz_w67 nz_w1012 ds_X8_keepArcs ⟨Nat.le_of_ble_eq_true rfl, Nat.le_of_ble_eq_true rfl⟩ rfl rfl) rfl rfl (Nat.le_of_ble_eq_true rfl) dX8_share_43 ?_
      refine nz_aload_n (pc := 46) (i := 0) E dX8_share_46 rfl rfl ?_
      refine nz_aload_n (pc := 47) (i := 0) E dX8_share_47 rfl rfl ?_
      refine nz_getR (pc := 48) (c := 0) (kf := 6) E rfl rfl (nz_upT nz_uX8) (by decide) (List.mem_cons_of_mem _ nz_w682) rfl rfl dX8_share_48 ?_
      obtain ⟨r13, x14, h15, hf⟩ := nz_bnd_t hf
      refine nz_callVV (pc := 51) (c0 := 0) (As := [.ref (q 4)]) E rfl rfl (k_X8_find 4 nz_p4 _ _ h15) (nz_cwV E nz_w800 nz_w802 nz_w24 nz_w67 nz_w803 ds_X8_find ⟨Nat.le_of_ble_eq_true rfl, Nat.le_of_ble_eq_true rfl⟩ rfl rfl) rfl rfl (Nat.le_of_ble_eq_true rfl) dX8_share_51 ?_
      refine nz_aload_n (pc := 54) (i := 0) E dX8_share_54 rfl rfl ?_
      refine nz_getR (pc := 55) (c := 0) (kf := 27) E rfl rfl (nz_upT nz_uX8) (by decide) (List.mem_cons_of_mem _ nz_w703) rfl rfl dX8_share_55 ?_
      refine nz_iload (pc := 58) (i := 5) E dX8_share_58 rfl ?_
      refine nz_aload_n (pc := 60) (i := 0) E dX8_share_60 rfl rfl ?_
      refine nz_iconst (pc := 61) (v := 1) E dX8_share_61 (by decide) ?_
      obtain ⟨r16, x17, h18, hf⟩ := nz_bnd_t hf
      refine nz_callVI (pc := 62) (c0 := 0) (As := [.int _]) E rfl rfl (k_X8_kinds   _ _ _ h18) (nz_cwV E nz_w845 nz_w847 nz_w33 nz_w67 nz_w848 ds_X8_kinds ⟨Nat.le_of_ble_eq_true rfl, Nat.le_of_ble_eq_true rfl⟩ rfl rfl) rfl rfl (Nat.le_of_ble_eq_true rfl) dX8_share_62 ?_
      obtain ⟨h19, hf⟩ := nz_chk_t hf
      refine nz_iast (pc := 65) (c := 19) E rfl h19 dX8_share_65 ?_
      refine nz_iinc (pc := 66) (i := 5) (w := 1) E dX8_share_66 rfl (by decide) (by decide) rfl ?_
      refine nz_goto (pc := 69) (tgt := 30) E dX8_share_69 (by decide) ?_
      refine nz_weak (lv' := [(0, .ref (q 0)), (1, .int _), (2, .int _), (3, .int _), (4, .int _), (5, .int _)]) ⟨rfl, rfl, rfl, rfl, rfl, rfl, trivial⟩ ?_
      exact ih _ _ _ hf hK
set_option maxHeartbeats 4000000 in
set_option maxRecDepth 20000 in
theorem w_X8_share_78 {κ : nz_C} {q : Nat → Nat} {o : Int32 × nz_S} (c2 : Int32) (c3 : Int32) (c4 : Int32) (E : nz_Env κ q nz_tM 8 cX8_share RX8 (nz_T yX8_share cX8_share 8 (some .int)) (nz_R 5 124)) (hR : nz_RI κ q nz_tM .int o) : ∀ (fu : Nat) (w5 : Int32) (w6 : Int32) (x : nz_S) (K : Int32 → Int32 → nz_S → Option (Int32 × nz_S)), f_X8_share_78 c2 c3 c4 fu w5 w6 x K = some o → (∀ (w5 : Int32) (w6 : Int32) (x : nz_S), K w5 w6 x = some o → nz_St κ q nz_tM 8 150 [(0, .ref (q 0)), (2, .int c2), (3, .int c3), (4, .int c4), (5, .int w5), (6, .int w6)] [] x) → nz_St κ q nz_tM 8 78 [(0, .ref (q 0)), (2, .int c2), (3, .int c3), (4, .int c4), (5, .int w5), (6, .int w6)] [] x := by
  intro fu
  induction fu with
  | zero => intro w5 w6 x K hf; rw [f_X8_share_78] at hf; cases hf
  | succ fu ih =>
    intro w5 w6 x K hf hK
    rw [f_X8_share_78] at hf
    refine nz_iload (pc := 78) (i := 6) E dX8_share_78 rfl ?_
    refine nz_iconst (pc := 80) (v := 1) E dX8_share_80 (by decide) ?_
    refine nz_iload (pc := 81) (i := 4) E dX8_share_81 rfl ?_
    refine nz_ishl (pc := 83) E dX8_share_83 ?_
    refine nz_icmp_ge (pc := 84) (tgt := 150) E dX8_share_84 (by decide) (fun h24 => ?_) (fun h24 => ?_)
    · have hf := nz_ite_t hf h24
      refine nz_weak (lv' := [(0, .ref (q 0)), (2, .int _), (3, .int _), (4, .int _), (5, .int _), (6, .int _)]) ⟨rfl, rfl, rfl, rfl, rfl, rfl, trivial⟩ ?_
      exact hK _ _ _ hf
    · have hf := nz_ite_f hf h24
      refine nz_iload (pc := 87) (i := 6) E dX8_share_87 rfl ?_
      refine nz_iload_n (pc := 89) (i := 2) E dX8_share_89 rfl rfl ?_
      obtain ⟨r25, x26, h27, hf⟩ := nz_bnd_t hf
      refine nz_callSI (pc := 90) (As := [.int _, .int _]) E (k_X8_has   _ _ _ _ h27) (nz_cwS E nz_w831 nz_w832 nz_w67 nz_w833 ds_X8_has ⟨Nat.le_of_ble_eq_true rfl, Nat.le_of_ble_eq_true rfl⟩ rfl rfl) rfl rfl (Nat.le_of_ble_eq_true rfl) dX8_share_90 ?_
      refine nz_if_ne (pc := 93) (tgt := 144) E dX8_share_93 (by decide) (fun h28 => ?_) (fun h28 => ?_)
      · have hf := nz_ite_f hf h28
        refine nz_iinc (pc := 144) (i := 6) (w := 1) E dX8_share_144 rfl (by decide) (by decide) rfl ?_
        refine nz_goto (pc := 147) (tgt := 78) E dX8_share_147 (by decide) ?_
        refine nz_weak (lv' := [(0, .ref (q 0)), (2, .int _), (3, .int _), (4, .int _), (5, .int _), (6, .int _)]) ⟨rfl, rfl, rfl, rfl, rfl, rfl, trivial⟩ ?_
        exact ih _ _ _ _ hf hK
      · have hf := nz_ite_t hf h28
        refine nz_iload (pc := 96) (i := 6) E dX8_share_96 rfl ?_
        obtain ⟨r30, x31, h32, hf⟩ := nz_bnd_t hf
        refine nz_callSI (pc := 98) (As := [.int _]) E (k_X8_many   _ _ _ h32) (nz_cwS E nz_w1013 nz_w1014 nz_w67 nz_w1015 ds_X8_many ⟨Nat.le_of_ble_eq_true rfl, Nat.le_of_ble_eq_true rfl⟩ rfl rfl) rfl rfl (Nat.le_of_ble_eq_true rfl) dX8_share_98 ?_
        refine nz_istore (pc := 101) (i := 7) E dX8_share_101 (by decide) rfl ?_
        refine nz_iload (pc := 103) (i := 5) E dX8_share_103 rfl ?_
        refine nz_iload (pc := 105) (i := 7) E dX8_share_105 rfl ?_
        obtain ⟨r33, x34, h35, hf⟩ := nz_bnd_t hf
        refine nz_callSI (pc := 107) (As := [.int _]) E (k_X8_ways   _ _ _ h35) (nz_cwS E nz_w1016 nz_w1017 nz_w67 nz_w1018 ds_X8_ways ⟨Nat.le_of_ble_eq_true rfl, Nat.le_of_ble_eq_true rfl⟩ rfl rfl) rfl rfl (Nat.le_of_ble_eq_true rfl) dX8_share_107 ?_
        refine nz_iload (pc := 110) (i := 4) E dX8_share_110 rfl ?_
        refine nz_iconst (pc := 112) (v := 1) E dX8_share_112 (by decide) ?_
        refine nz_isub (pc := 113) E dX8_share_113 ?_
        refine nz_iload (pc := 114) (i := 7) E dX8_share_114 rfl ?_
        refine nz_isub (pc := 116) E dX8_share_116 ?_
        obtain ⟨r36, x37, h38, hf⟩ := nz_bnd_t hf
        refine nz_callSI (pc := 117) (As := [.int _]) E (k_X8_ways   _ _ _ h38) (nz_cwS E nz_w1016 nz_w1017 nz_w67 nz_w1018 ds_X8_ways ⟨Nat.le_of_ble_eq_true rfl, Nat.le_of_ble_eq_true rfl⟩ rfl rfl) rfl rfl (Nat.le_of_ble_eq_true rfl) dX8_share_117 ?_
        refine nz_imul (pc := 120) E dX8_share_120 ?_
        refine nz_aload_n (pc := 121) (i := 0) E dX8_share_121 rfl rfl ?_
        refine nz_getR (pc := 122) (c := 0) (kf := 27) E rfl rfl (nz_upT nz_uX8) (by decide) (List.mem_cons_of_mem _ nz_w703) rfl rfl dX8_share_122 ?_
        refine nz_iload (pc := 125) (i := 6) E dX8_share_125 rfl ?_
        refine nz_iconst (pc := 127) (v := 1) E dX8_share_127 (by decide) ?_
        refine nz_iload_n (pc := 128) (i := 2) E dX8_share_128 rfl rfl ?_
        refine nz_ishl (pc := 129) E dX8_share_129 ?_
        refine nz_ior (pc := 130) E dX8_share_130 ?_
        obtain ⟨h40, hf⟩ := nz_chk_t hf
        refine nz_iald (pc := 131) (c := 19) E rfl h40 dX8_share_131 ?_
        refine nz_aload_n (pc := 132) (i := 0) E dX8_share_132 rfl rfl ?_
        refine nz_getR (pc := 133) (c := 0) (kf := 27) E rfl rfl (nz_upT nz_uX8) (by decide) (List.mem_cons_of_mem _ nz_w703) rfl rfl dX8_share_133 ?_
        refine nz_iload (pc := 136) (i := 6) E dX8_share_136 rfl ?_
        obtain ⟨h41, hf⟩ := nz_chk_t hf
        refine nz_iald (pc := 138) (c := 19) E rfl h41 dX8_share_138 ?_
        refine nz_isub (pc := 139) E dX8_share_139 ?_
        refine nz_imul (pc := 140) E dX8_share_140 ?_
        refine nz_iadd (pc := 141) E dX8_share_141 ?_
        refine nz_istore (pc := 142) (i := 5) E dX8_share_142 (by decide) rfl ?_
        refine nz_iinc (pc := 144) (i := 6) (w := 1) E dX8_share_144 rfl (by decide) (by decide) rfl ?_
        refine nz_goto (pc := 147) (tgt := 78) E dX8_share_147 (by decide) ?_
        refine nz_weak (lv' := [(0, .ref (q 0)), (2, .int _), (3, .int _), (4, .int _), (5, .int _), (6, .int _)]) ⟨rfl, rfl, rfl, rfl, rfl, rfl, trivial⟩ ?_
        exact ih _ _ _ _ hf hK
set_option maxHeartbeats 4000000 in
set_option maxRecDepth 20000 in
theorem k_X8_share {l : Launch} {w : nz_O} {q : Nat → Nat} (a0 : Int32) (a1 : Int32) (a2 : Int32) (x : nz_S) (o : Int32 × nz_S) (hf : f_X8_share a0 a1 a2 x = some o) : nz_MI l yX8_share (nz_T yX8_share cX8_share 8 (some .int)) (nz_R 5 124) w q nz_tM [.ref (q 0), .int a0, .int a1, .int a2] x o := by
  refine nz_enterI (by decide) rfl (Nat.le_of_ble_eq_true rfl) rfl rfl ?_
  intro κ E hw hlq hR
  subst hw; subst hlq
  unfold f_X8_share at hf
  refine nz_weak (lv' := [(0, .ref (q 0)), (1, .int a0), (2, .int a1), (3, .int a2)]) ⟨rfl, rfl, rfl, rfl, trivial⟩ ?_
  refine nz_aload_n (pc := 0) (i := 0) E dX8_share_0 rfl rfl ?_
  refine nz_iconst (pc := 1) (v := 0) E dX8_share_1 (by decide) ?_
  refine nz_putI (pc := 2) (c := 0) (kf := 0) E rfl rfl (nz_upT nz_uX8) (by decide) (List.mem_cons_of_mem _ nz_w676) rfl tyX8 tyX8_ok nmX8 rfl (tyX8_ok 0 (by decide)) rfl dX8_share_2 ?_
  refine nz_aload_n (pc := 5) (i := 0) E dX8_share_5 rfl rfl ?_
  refine nz_iload_n (pc := 6) (i := 1) E dX8_share_6 rfl rfl ?_
  refine nz_iload_n (pc := 7) (i := 2) E dX8_share_7 rfl rfl ?_
  obtain ⟨r2, x3, h4, hf⟩ := nz_bnd_t hf
  refine nz_callVI (pc := 8) (c0 := 0) (As := [.int _, .int _]) E rfl rfl (k_X8_noArc   _ _ _ _ h4) (nz_cwV E nz_w883 nz_w885 nz_w39 nz_w67 nz_w886 ds_X8_noArc ⟨Nat.le_of_ble_eq_true rfl, Nat.le_of_ble_eq_true rfl⟩ rfl rfl) rfl rfl (Nat.le_of_ble_eq_true rfl) dX8_share_8 ?_
  refine nz_if_eq (pc := 11) (tgt := 16) E dX8_share_11 (by decide) (fun h5 => ?_) (fun h5 => ?_)
  · have hf := nz_ite_t hf h5
    refine nz_aload_n (pc := 16) (i := 0) E dX8_share_16 rfl rfl ?_
    refine nz_getR (pc := 17) (c := 0) (kf := 5) E rfl rfl (nz_upT nz_uX8) (by decide) (List.mem_cons_of_mem _ nz_w681) rfl rfl dX8_share_17 ?_
    refine nz_bipush (pc := 20) (v := 13) E dX8_share_20 (by decide) ?_
    refine nz_iload_n (pc := 22) (i := 1) E dX8_share_22 rfl rfl ?_
    refine nz_iadd (pc := 23) E dX8_share_23 ?_
    obtain ⟨h7, hf⟩ := nz_chk_t hf
    refine nz_iald (pc := 24) (c := 3) E rfl h7 dX8_share_24 ?_
    refine nz_istore (pc := 25) (i := 4) E dX8_share_25 (by decide) rfl ?_
    refine nz_iconst (pc := 27) (v := 0) E dX8_share_27 (by decide) ?_
    refine nz_istore (pc := 28) (i := 5) E dX8_share_28 (by decide) rfl ?_
    refine nz_weak (lv' := [(0, .ref (q 0)), (1, .int _), (2, .int _), (3, .int _), (4, .int _), (5, .int _)]) ⟨rfl, rfl, rfl, rfl, rfl, rfl, trivial⟩ ?_
    refine w_X8_share_30 _ _ _ _ E hR _ _ _ _ hf (fun u23 x22 hf => ?_)
    refine nz_iconst (pc := 72) (v := 0) E dX8_share_72 (by decide) ?_
    refine nz_istore (pc := 73) (i := 5) E dX8_share_73 (by decide) rfl ?_
    refine nz_iconst (pc := 75) (v := 0) E dX8_share_75 (by decide) ?_
    refine nz_istore (pc := 76) (i := 6) E dX8_share_76 (by decide) rfl ?_
    refine nz_weak (lv' := [(0, .ref (q 0)), (2, .int _), (3, .int _), (4, .int _), (5, .int _), (6, .int _)]) ⟨rfl, rfl, rfl, rfl, rfl, rfl, trivial⟩ ?_
    refine w_X8_share_78 _ _ _ E hR _ _ _ _ _ hf (fun u45 u46 x44 hf => ?_)
    refine nz_iload (pc := 150) (i := 5) E dX8_share_150 rfl ?_
    refine nz_iload (pc := 152) (i := 4) E dX8_share_152 rfl ?_
    obtain ⟨r47, x48, h49, hf⟩ := nz_bnd_t hf
    refine nz_callSI (pc := 154) (As := [.int _]) E (k_X8_ways   _ _ _ h49) (nz_cwS E nz_w1016 nz_w1017 nz_w67 nz_w1018 ds_X8_ways ⟨Nat.le_of_ble_eq_true rfl, Nat.le_of_ble_eq_true rfl⟩ rfl rfl) rfl rfl (Nat.le_of_ble_eq_true rfl) dX8_share_154 ?_
    refine nz_iload_n (pc := 157) (i := 3) E dX8_share_157 rfl rfl ?_
    obtain ⟨r50, x51, h52, hf⟩ := nz_bnd_t hf
    refine nz_callSI (pc := 158) (As := [.int _, .int _, .int _]) E (k_X8_fraction   _ _ _ _ _ h52) (nz_cwS E nz_w1019 nz_w1020 nz_w67 nz_w1021 ds_X8_fraction ⟨Nat.le_of_ble_eq_true rfl, Nat.le_of_ble_eq_true rfl⟩ rfl rfl) rfl rfl (Nat.le_of_ble_eq_true rfl) dX8_share_158 ?_
    exact nz_iret (pc := 161) E hR rfl hf dX8_share_161
  · have hf := nz_ite_f hf h5
    refine nz_iconst (pc := 14) (v := -1) E dX8_share_14 (by decide) ?_
    exact nz_iret (pc := 15) E hR rfl hf dX8_share_15
def f_X8_see (a0 : Int32) (a1 : Int32) (a2 : Int32) (x : nz_S) : Option (Int32 × nz_S) :=
  let x1 : nz_S := nz_put x 0 0 (0 : Int32)
  nz_bnd (f_X8_in  (a0).toInt64 (0 : Int64) (4 : Int64) x1) fun r2 x3 =>
  if r2 = (0 : Int32) then
    some ((-2 : Int32), x3)
  else
    nz_bnd (f_X8_in  (a1).toInt64 (97 : Int64) (122 : Int64) x3) fun r6 x7 =>
    if r6 = (0 : Int32) then
      some ((-2 : Int32), x7)
    else
      nz_bnd (f_X8_in  (a2).toInt64 (0 : Int64) (1 : Int64) x7) fun r10 x11 =>
      if r10 = (0 : Int32) then
        some ((-2 : Int32), x11)
      else
        if (x11.1 0 11) = (6 : Int32) then
          some ((-4 : Int32), x11)
        else
          let v15 : Int32 := (x11.1 0 11)
          nz_chk (nz_in v15 6) <|
          let x17 : nz_S := nz_put x11 8 (v15).toNatClampNeg a0
          let v18 : Int32 := (x17.1 0 11)
          nz_chk (nz_in v18 6) <|
          let x20 : nz_S := nz_put x17 9 (v18).toNatClampNeg a1
          let v21 : Int32 := (x20.1 0 11)
          nz_chk (nz_in v21 6) <|
          let x23 : nz_S := nz_put x20 10 (v21).toNatClampNeg a2
          let x24 : nz_S := nz_put x23 0 11 ((x23.1 0 11) + (1 : Int32))
          some ((x24.1 0 11), x24)
theorem ds_X8_see : nz_dsc yX8_see 3 := by unfold nz_dsc; decide +kernel
set_option maxHeartbeats 4000000 in
set_option maxRecDepth 20000 in
theorem k_X8_see {l : Launch} {w : nz_O} {q : Nat → Nat} (a0 : Int32) (a1 : Int32) (a2 : Int32) (x : nz_S) (o : Int32 × nz_S) (hf : f_X8_see a0 a1 a2 x = some o) : nz_MI l yX8_see (nz_T yX8_see cX8_see 4 (some .int)) (nz_R 1 25) w q nz_tM [.ref (q 0), .int a0, .int a1, .int a2] x o := by
  refine nz_enterI (by decide) rfl (Nat.le_of_ble_eq_true rfl) rfl rfl ?_
  intro κ E hw hlq hR
  subst hw; subst hlq
  unfold f_X8_see at hf
  refine nz_weak (lv' := [(0, .ref (q 0)), (1, .int a0), (2, .int a1), (3, .int a2)]) ⟨rfl, rfl, rfl, rfl, trivial⟩ ?_
  refine nz_aload_n (pc := 0) (i := 0) E dX8_see_0 rfl rfl ?_
  refine nz_iconst (pc := 1) (v := 0) E dX8_see_1 (by decide) ?_
  refine nz_putI (pc := 2) (c := 0) (kf := 0) E rfl rfl (nz_upT nz_uX8) (by decide) (List.mem_cons_of_mem _ nz_w676) rfl tyX8 tyX8_ok nmX8 rfl (tyX8_ok 0 (by decide)) rfl dX8_see_2 ?_
  refine nz_iload_n (pc := 5) (i := 1) E dX8_see_5 rfl rfl ?_
  refine nz_i2l (pc := 6) E dX8_see_6 ?_
  refine nz_lconst (pc := 7) (v := 0) E dX8_see_7 (by decide) ?_
  refine nz_ldc2 (pc := 8) E (List.mem_cons_of_mem _ nz_w980) dX8_see_8 ?_
  obtain ⟨r2, x3, h4, hf⟩ := nz_bnd_t hf
  refine nz_callSI (pc := 11) (As := [.long _, .long _, .long _]) E (k_X8_in   _ _ _ _ _ h4) (nz_cwS E nz_w766 nz_w767 nz_w67 nz_w768 ds_X8_in ⟨Nat.le_of_ble_eq_true rfl, Nat.le_of_ble_eq_true rfl⟩ rfl rfl) rfl rfl (Nat.le_of_ble_eq_true rfl) dX8_see_11 ?_
  refine nz_if_eq (pc := 14) (tgt := 41) E dX8_see_14 (by decide) (fun h5 => ?_) (fun h5 => ?_)
  · have hf := nz_ite_t hf h5
    refine nz_bipush (pc := 41) (v := -2) E dX8_see_41 (by decide) ?_
    exact nz_iret (pc := 43) E hR rfl hf dX8_see_43
  · have hf := nz_ite_f hf h5
    refine nz_iload_n (pc := 17) (i := 2) E dX8_see_17 rfl rfl ?_
    refine nz_i2l (pc := 18) E dX8_see_18 ?_
    refine nz_ldc2 (pc := 19) E (List.mem_cons_of_mem _ nz_w790) dX8_see_19 ?_
    refine nz_ldc2 (pc := 22) E (List.mem_cons_of_mem _ nz_w791) dX8_see_22 ?_
    obtain ⟨r6, x7, h8, hf⟩ := nz_bnd_t hf
    refine nz_callSI (pc := 25) (As := [.long _, .long _, .long _]) E (k_X8_in   _ _ _ _ _ h8) (nz_cwS E nz_w766 nz_w767 nz_w67 nz_w768 ds_X8_in ⟨Nat.le_of_ble_eq_true rfl, Nat.le_of_ble_eq_true rfl⟩ rfl rfl) rfl rfl (Nat.le_of_ble_eq_true rfl) dX8_see_25 ?_
    refine nz_if_eq (pc := 28) (tgt := 41) E dX8_see_28 (by decide) (fun h9 => ?_) (fun h9 => ?_)
    · have hf := nz_ite_t hf h9
      refine nz_bipush (pc := 41) (v := -2) E dX8_see_41 (by decide) ?_
      exact nz_iret (pc := 43) E hR rfl hf dX8_see_43
    · have hf := nz_ite_f hf h9
      refine nz_iload_n (pc := 31) (i := 3) E dX8_see_31 rfl rfl ?_
      refine nz_i2l (pc := 32) E dX8_see_32 ?_
      refine nz_lconst (pc := 33) (v := 0) E dX8_see_33 (by decide) ?_
      refine nz_lconst (pc := 34) (v := 1) E dX8_see_34 (by decide) ?_
      obtain ⟨r10, x11, h12, hf⟩ := nz_bnd_t hf
      refine nz_callSI (pc := 35) (As := [.long _, .long _, .long _]) E (k_X8_in   _ _ _ _ _ h12) (nz_cwS E nz_w766 nz_w767 nz_w67 nz_w768 ds_X8_in ⟨Nat.le_of_ble_eq_true rfl, Nat.le_of_ble_eq_true rfl⟩ rfl rfl) rfl rfl (Nat.le_of_ble_eq_true rfl) dX8_see_35 ?_
      refine nz_if_ne (pc := 38) (tgt := 44) E dX8_see_38 (by decide) (fun h13 => ?_) (fun h13 => ?_)
      · have hf := nz_ite_f hf h13
        refine nz_aload_n (pc := 44) (i := 0) E dX8_see_44 rfl rfl ?_
        refine nz_getI (pc := 45) (c := 0) (kf := 11) E rfl rfl (nz_upT nz_uX8) (by decide) (List.mem_cons_of_mem _ nz_w687) rfl rfl dX8_see_45 ?_
        refine nz_bipush (pc := 48) (v := 6) E dX8_see_48 (by decide) ?_
        refine nz_icmp_ne (pc := 50) (tgt := 56) E dX8_see_50 (by decide) (fun h14 => ?_) (fun h14 => ?_)
        · have hf := nz_ite_f hf h14
          refine nz_aload_n (pc := 56) (i := 0) E dX8_see_56 rfl rfl ?_
          refine nz_getR (pc := 57) (c := 0) (kf := 12) E rfl rfl (nz_upT nz_uX8) (by decide) (List.mem_cons_of_mem _ nz_w688) rfl rfl dX8_see_57 ?_
          refine nz_aload_n (pc := 60) (i := 0) E dX8_see_60 rfl rfl ?_
          refine nz_getI (pc := 61) (c := 0) (kf := 11) E rfl rfl (nz_upT nz_uX8) (by decide) (List.mem_cons_of_mem _ nz_w687) rfl rfl dX8_see_61 ?_
          refine nz_iload_n (pc := 64) (i := 1) E dX8_see_64 rfl rfl ?_
          obtain ⟨h16, hf⟩ := nz_chk_t hf
          refine nz_iast (pc := 65) (c := 8) E rfl h16 dX8_see_65 ?_
          refine nz_aload_n (pc := 66) (i := 0) E dX8_see_66 rfl rfl ?_
          refine nz_getR (pc := 67) (c := 0) (kf := 13) E rfl rfl (nz_upT nz_uX8) (by decide) (List.mem_cons_of_mem _ nz_w689) rfl rfl dX8_see_67 ?_
          refine nz_aload_n (pc := 70) (i := 0) E dX8_see_70 rfl rfl ?_
          refine nz_getI (pc := 71) (c := 0) (kf := 11) E rfl rfl (nz_upT nz_uX8) (by decide) (List.mem_cons_of_mem _ nz_w687) rfl rfl dX8_see_71 ?_
          refine nz_iload_n (pc := 74) (i := 2) E dX8_see_74 rfl rfl ?_
          obtain ⟨h19, hf⟩ := nz_chk_t hf
          refine nz_iast (pc := 75) (c := 9) E rfl h19 dX8_see_75 ?_
          refine nz_aload_n (pc := 76) (i := 0) E dX8_see_76 rfl rfl ?_
          refine nz_getR (pc := 77) (c := 0) (kf := 14) E rfl rfl (nz_upT nz_uX8) (by decide) (List.mem_cons_of_mem _ nz_w690) rfl rfl dX8_see_77 ?_
          refine nz_aload_n (pc := 80) (i := 0) E dX8_see_80 rfl rfl ?_
          refine nz_getI (pc := 81) (c := 0) (kf := 11) E rfl rfl (nz_upT nz_uX8) (by decide) (List.mem_cons_of_mem _ nz_w687) rfl rfl dX8_see_81 ?_
          refine nz_iload_n (pc := 84) (i := 3) E dX8_see_84 rfl rfl ?_
          obtain ⟨h22, hf⟩ := nz_chk_t hf
          refine nz_iast (pc := 85) (c := 10) E rfl h22 dX8_see_85 ?_
          refine nz_aload_n (pc := 86) (i := 0) E dX8_see_86 rfl rfl ?_
          refine nz_dup (pc := 87) E dX8_see_87 rfl ?_
          refine nz_getI (pc := 88) (c := 0) (kf := 11) E rfl rfl (nz_upT nz_uX8) (by decide) (List.mem_cons_of_mem _ nz_w687) rfl rfl dX8_see_88 ?_
          refine nz_iconst (pc := 91) (v := 1) E dX8_see_91 (by decide) ?_
          refine nz_iadd (pc := 92) E dX8_see_92 ?_
          refine nz_putI (pc := 93) (c := 0) (kf := 11) E rfl rfl (nz_upT nz_uX8) (by decide) (List.mem_cons_of_mem _ nz_w687) rfl tyX8 tyX8_ok nmX8 rfl (tyX8_ok 11 (by decide)) rfl dX8_see_93 ?_
          refine nz_aload_n (pc := 96) (i := 0) E dX8_see_96 rfl rfl ?_
          refine nz_getI (pc := 97) (c := 0) (kf := 11) E rfl rfl (nz_upT nz_uX8) (by decide) (List.mem_cons_of_mem _ nz_w687) rfl rfl dX8_see_97 ?_
          exact nz_iret (pc := 100) E hR rfl hf dX8_see_100
        · have hf := nz_ite_t hf h14
          refine nz_bipush (pc := 53) (v := -4) E dX8_see_53 (by decide) ?_
          exact nz_iret (pc := 55) E hR rfl hf dX8_see_55
      · have hf := nz_ite_t hf h13
        refine nz_bipush (pc := 41) (v := -2) E dX8_see_41 (by decide) ?_
        exact nz_iret (pc := 43) E hR rfl hf dX8_see_43
def f_X8_unsee (x : nz_S) : Option (Int32 × nz_S) :=
  let x1 : nz_S := nz_put x 0 0 (0 : Int32)
  let v2 : Int32 := (x1.1 0 11)
  let x3 : nz_S := nz_put x1 0 11 (0 : Int32)
  some (v2, x3)
theorem ds_X8_unsee : nz_dsc yX8_unsee 0 := by unfold nz_dsc; decide +kernel
set_option maxHeartbeats 4000000 in
set_option maxRecDepth 20000 in
theorem k_X8_unsee {l : Launch} {w : nz_O} {q : Nat → Nat} (x : nz_S) (o : Int32 × nz_S) (hf : f_X8_unsee x = some o) : nz_MI l yX8_unsee (nz_T yX8_unsee cX8_unsee 2 (some .int)) (nz_R 0 0) w q nz_tM [.ref (q 0)] x o := by
  refine nz_enterI (by decide) rfl (Nat.le_of_ble_eq_true rfl) rfl rfl ?_
  intro κ E hw hlq hR
  subst hw; subst hlq
  unfold f_X8_unsee at hf
  refine nz_weak (lv' := [(0, .ref (q 0))]) ⟨rfl, trivial⟩ ?_
  refine nz_aload_n (pc := 0) (i := 0) E dX8_unsee_0 rfl rfl ?_
  refine nz_iconst (pc := 1) (v := 0) E dX8_unsee_1 (by decide) ?_
  refine nz_putI (pc := 2) (c := 0) (kf := 0) E rfl rfl (nz_upT nz_uX8) (by decide) (List.mem_cons_of_mem _ nz_w676) rfl tyX8 tyX8_ok nmX8 rfl (tyX8_ok 0 (by decide)) rfl dX8_unsee_2 ?_
  refine nz_aload_n (pc := 5) (i := 0) E dX8_unsee_5 rfl rfl ?_
  refine nz_getI (pc := 6) (c := 0) (kf := 11) E rfl rfl (nz_upT nz_uX8) (by decide) (List.mem_cons_of_mem _ nz_w687) rfl rfl dX8_unsee_6 ?_
  refine nz_istore_n (pc := 9) (i := 1) E dX8_unsee_9 rfl (by decide) rfl ?_
  refine nz_aload_n (pc := 10) (i := 0) E dX8_unsee_10 rfl rfl ?_
  refine nz_iconst (pc := 11) (v := 0) E dX8_unsee_11 (by decide) ?_
  refine nz_putI (pc := 12) (c := 0) (kf := 11) E rfl rfl (nz_upT nz_uX8) (by decide) (List.mem_cons_of_mem _ nz_w687) rfl tyX8 tyX8_ok nmX8 rfl (tyX8_ok 11 (by decide)) rfl dX8_unsee_12 ?_
  refine nz_iload_n (pc := 15) (i := 1) E dX8_unsee_15 rfl rfl ?_
  exact nz_iret (pc := 16) E hR rfl hf dX8_unsee_16
def f_X8_actBehind_5 (c1 : Int32) (c2 : Int32) : Nat → Int32 → Int32 → nz_S → (Int32 → Int32 → nz_S → Option (Int32 × nz_S)) → Option (Int32 × nz_S)
  | 0, _, _, _, _ => none
  | fu + 1, w3, w4, x, K =>
  if c2 ≤ w4 then
    K w3 w4 x
  else
    nz_bnd (f_X8_power  (3 : Int32) ((3 : Int32) - w4) x) fun r2 x3 =>
    nz_chk (r2 != 0) <|
    let v6 : Int32 := (c1 / r2)
    nz_bnd (f_X8_step  w3 (v6 - v6 / (3 : Int32) * (3 : Int32)) x3) fun r7 x8 =>
    let v10 : Int32 := w4 + 1
    f_X8_actBehind_5 c1 c2 fu r7 v10 x8 K
def f_X8_actBehind (a0 : Int32) (a1 : Int32) (x : nz_S) : Option (Int32 × nz_S) :=
  f_X8_actBehind_5 a0 a1 nz_F (0 : Int32) (0 : Int32) x fun u12 u13 x11 =>
    let v14 : Int32 := ((1 : Int32) + u12)
    nz_chk (nz_in v14 61) <|
    some ((x11.1 3 (v14).toNatClampNeg), x11)
theorem ds_X8_actBehind : nz_dsc yX8_actBehind 2 := by unfold nz_dsc; decide +kernel
set_option maxHeartbeats 4000000 in
set_option maxRecDepth 20000 in
theorem w_X8_actBehind_5 {κ : nz_C} {q : Nat → Nat} {o : Int32 × nz_S} (c1 : Int32) (c2 : Int32) (E : nz_Env κ q nz_tM 5 cX8_actBehind RX8 (nz_T yX8_actBehind cX8_actBehind 5 (some .int)) (nz_R 1 23)) (hR : nz_RI κ q nz_tM .int o) : ∀ (fu : Nat) (w3 : Int32) (w4 : Int32) (x : nz_S) (K : Int32 → Int32 → nz_S → Option (Int32 × nz_S)), f_X8_actBehind_5 c1 c2 fu w3 w4 x K = some o → (∀ (w3 : Int32) (w4 : Int32) (x : nz_S), K w3 w4 x = some o → nz_St κ q nz_tM 5 35 [(0, .ref (q 0)), (1, .int c1), (2, .int c2), (3, .int w3), (4, .int w4)] [] x) → nz_St κ q nz_tM 5 5 [(0, .ref (q 0)), (1, .int c1), (2, .int c2), (3, .int w3), (4, .int w4)] [] x := by
  intro fu
  induction fu with
  | zero => intro w3 w4 x K hf; rw [f_X8_actBehind_5] at hf; cases hf
  | succ fu ih =>
    intro w3 w4 x K hf hK
    rw [f_X8_actBehind_5] at hf
    refine nz_iload (pc := 5) (i := 4) E dX8_actBehind_5 rfl ?_
    refine nz_iload_n (pc := 7) (i := 2) E dX8_actBehind_7 rfl rfl ?_
    refine nz_icmp_ge (pc := 8) (tgt := 35) E dX8_actBehind_8 (by decide) (fun h1 => ?_) (fun h1 => ?_)
    · have hf := nz_ite_t hf h1
      refine nz_weak (lv' := [(0, .ref (q 0)), (1, .int _), (2, .int _), (3, .int _), (4, .int _)]) ⟨rfl, rfl, rfl, rfl, rfl, trivial⟩ ?_
      exact hK _ _ _ hf
    · have hf := nz_ite_f hf h1
      refine nz_aload_n (pc := 11) (i := 0) E dX8_actBehind_11 rfl rfl ?_
      refine nz_iload_n (pc := 12) (i := 3) E dX8_actBehind_12 rfl rfl ?_
      refine nz_iload_n (pc := 13) (i := 1) E dX8_actBehind_13 rfl rfl ?_
      refine nz_iconst (pc := 14) (v := 3) E dX8_actBehind_14 (by decide) ?_
      refine nz_iconst (pc := 15) (v := 3) E dX8_actBehind_15 (by decide) ?_
      refine nz_iload (pc := 16) (i := 4) E dX8_actBehind_16 rfl ?_
      refine nz_isub (pc := 18) E dX8_actBehind_18 ?_
      obtain ⟨r2, x3, h4, hf⟩ := nz_bnd_t hf
      refine nz_callSI (pc := 19) (As := [.int _, .int _]) E (k_X8_power   _ _ _ _ h4) (nz_cwS E nz_w956 nz_w957 nz_w67 nz_w958 ds_X8_power ⟨Nat.le_of_ble_eq_true rfl, Nat.le_of_ble_eq_true rfl⟩ rfl rfl) rfl rfl (Nat.le_of_ble_eq_true rfl) dX8_actBehind_19 ?_
      obtain ⟨h5, hf⟩ := nz_chk_t hf
      refine nz_idiv (pc := 22) E dX8_actBehind_22 h5 ?_
      refine nz_iconst (pc := 23) (v := 3) E dX8_actBehind_23 (by decide) ?_
      refine nz_irem (pc := 24) E dX8_actBehind_24 (by decide) ?_
      obtain ⟨r7, x8, h9, hf⟩ := nz_bnd_t hf
      refine nz_callVI (pc := 25) (c0 := 0) (As := [.int _, .int _]) E rfl rfl (k_X8_step   _ _ _ _ h9) (nz_cwV E nz_w963 nz_w965 nz_w48 nz_w67 nz_w966 ds_X8_step ⟨Nat.le_of_ble_eq_true rfl, Nat.le_of_ble_eq_true rfl⟩ rfl rfl) rfl rfl (Nat.le_of_ble_eq_true rfl) dX8_actBehind_25 ?_
      refine nz_istore_n (pc := 28) (i := 3) E dX8_actBehind_28 rfl (by decide) rfl ?_
      refine nz_iinc (pc := 29) (i := 4) (w := 1) E dX8_actBehind_29 rfl (by decide) (by decide) rfl ?_
      refine nz_goto (pc := 32) (tgt := 5) E dX8_actBehind_32 (by decide) ?_
      refine nz_weak (lv' := [(0, .ref (q 0)), (1, .int _), (2, .int _), (3, .int _), (4, .int _)]) ⟨rfl, rfl, rfl, rfl, rfl, trivial⟩ ?_
      exact ih _ _ _ _ hf hK
set_option maxHeartbeats 4000000 in
set_option maxRecDepth 20000 in
theorem k_X8_actBehind {l : Launch} {w : nz_O} {q : Nat → Nat} (a0 : Int32) (a1 : Int32) (x : nz_S) (o : Int32 × nz_S) (hf : f_X8_actBehind a0 a1 x = some o) : nz_MI l yX8_actBehind (nz_T yX8_actBehind cX8_actBehind 5 (some .int)) (nz_R 1 23) w q nz_tM [.ref (q 0), .int a0, .int a1] x o := by
  refine nz_enterI (by decide) rfl (Nat.le_of_ble_eq_true rfl) rfl rfl ?_
  intro κ E hw hlq hR
  subst hw; subst hlq
  unfold f_X8_actBehind at hf
  refine nz_weak (lv' := [(0, .ref (q 0)), (1, .int a0), (2, .int a1)]) ⟨rfl, rfl, rfl, trivial⟩ ?_
  refine nz_iconst (pc := 0) (v := 0) E dX8_actBehind_0 (by decide) ?_
  refine nz_istore_n (pc := 1) (i := 3) E dX8_actBehind_1 rfl (by decide) rfl ?_
  refine nz_iconst (pc := 2) (v := 0) E dX8_actBehind_2 (by decide) ?_
  refine nz_istore (pc := 3) (i := 4) E dX8_actBehind_3 (by decide) rfl ?_
  refine nz_weak (lv' := [(0, .ref (q 0)), (1, .int _), (2, .int _), (3, .int _), (4, .int _)]) ⟨rfl, rfl, rfl, rfl, rfl, trivial⟩ ?_
  refine w_X8_actBehind_5 _ _ E hR _ _ _ _ _ hf (fun u12 u13 x11 hf => ?_)
  refine nz_aload_n (pc := 35) (i := 0) E dX8_actBehind_35 rfl rfl ?_
  refine nz_getR (pc := 36) (c := 0) (kf := 5) E rfl rfl (nz_upT nz_uX8) (by decide) (List.mem_cons_of_mem _ nz_w681) rfl rfl dX8_actBehind_36 ?_
  refine nz_iconst (pc := 39) (v := 1) E dX8_actBehind_39 (by decide) ?_
  refine nz_iload_n (pc := 40) (i := 3) E dX8_actBehind_40 rfl rfl ?_
  refine nz_iadd (pc := 41) E dX8_actBehind_41 ?_
  obtain ⟨h15, hf⟩ := nz_chk_t hf
  refine nz_iald (pc := 42) (c := 3) E rfl h15 dX8_actBehind_42 ?_
  exact nz_iret (pc := 43) E hR rfl hf dX8_actBehind_43
def f_X8_figures (a0 : Int32) (x : nz_S) : Option (Int32 × nz_S) :=
  let v1 : Int32 := (a0 / (9 : Int32))
  let v2 : Int32 := (a0 / (3 : Int32))
  some ((((((a0 / (27 : Int32)) * (1000 : Int32)) + ((v1 - v1 / (3 : Int32) * (3 : Int32)) * (100 : Int32))) + ((v2 - v2 / (3 : Int32) * (3 : Int32)) * (10 : Int32))) + (a0 - a0 / (3 : Int32) * (3 : Int32))), x)
theorem ds_X8_figures : nz_dsc yX8_figures 1 := by unfold nz_dsc; decide +kernel
set_option maxHeartbeats 4000000 in
set_option maxRecDepth 20000 in
theorem k_X8_figures {l : Launch} {w : nz_O} {q : Nat → Nat} (a0 : Int32) (x : nz_S) (o : Int32 × nz_S) (hf : f_X8_figures a0 x = some o) : nz_MI l yX8_figures (nz_T yX8_figures cX8_figures 1 (some .int)) (nz_R 0 0) w q nz_tM [.int a0] x o := by
  refine nz_enterI (by decide) rfl (Nat.le_of_ble_eq_true rfl) rfl rfl ?_
  intro κ E hw hlq hR
  subst hw; subst hlq
  unfold f_X8_figures at hf
  refine nz_weak (lv' := [(0, .int a0)]) ⟨rfl, trivial⟩ ?_
  refine nz_iload_n (pc := 0) (i := 0) E dX8_figures_0 rfl rfl ?_
  refine nz_bipush (pc := 1) (v := 27) E dX8_figures_1 (by decide) ?_
  refine nz_idiv (pc := 3) E dX8_figures_3 (by decide) ?_
  refine nz_sipush (pc := 4) (v := 1000) E dX8_figures_4 (by decide) ?_
  refine nz_imul (pc := 7) E dX8_figures_7 ?_
  refine nz_iload_n (pc := 8) (i := 0) E dX8_figures_8 rfl rfl ?_
  refine nz_bipush (pc := 9) (v := 9) E dX8_figures_9 (by decide) ?_
  refine nz_idiv (pc := 11) E dX8_figures_11 (by decide) ?_
  refine nz_iconst (pc := 12) (v := 3) E dX8_figures_12 (by decide) ?_
  refine nz_irem (pc := 13) E dX8_figures_13 (by decide) ?_
  refine nz_bipush (pc := 14) (v := 100) E dX8_figures_14 (by decide) ?_
  refine nz_imul (pc := 16) E dX8_figures_16 ?_
  refine nz_iadd (pc := 17) E dX8_figures_17 ?_
  refine nz_iload_n (pc := 18) (i := 0) E dX8_figures_18 rfl rfl ?_
  refine nz_iconst (pc := 19) (v := 3) E dX8_figures_19 (by decide) ?_
  refine nz_idiv (pc := 20) E dX8_figures_20 (by decide) ?_
  refine nz_iconst (pc := 21) (v := 3) E dX8_figures_21 (by decide) ?_
  refine nz_irem (pc := 22) E dX8_figures_22 (by decide) ?_
  refine nz_bipush (pc := 23) (v := 10) E dX8_figures_23 (by decide) ?_
  refine nz_imul (pc := 25) E dX8_figures_25 ?_
  refine nz_iadd (pc := 26) E dX8_figures_26 ?_
  refine nz_iload_n (pc := 27) (i := 0) E dX8_figures_27 rfl rfl ?_
  refine nz_iconst (pc := 28) (v := 3) E dX8_figures_28 (by decide) ?_
  refine nz_irem (pc := 29) E dX8_figures_29 (by decide) ?_
  refine nz_iadd (pc := 30) E dX8_figures_30 ?_
  exact nz_iret (pc := 31) E hR rfl hf dX8_figures_31
