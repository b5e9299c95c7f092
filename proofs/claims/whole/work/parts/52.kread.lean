theorem ge12 : (12 : Int32) ≤ nI 12 := by decide
theorem lt12 {j : Nat} (h : j < 12) : ¬ (12 : Int32) ≤ nI j := by
  rw [show (12 : Int32) = nI 12 from rfl, z_le (by omega) (by omega)]; omega
theorem kVis {g : Nat} {G : zG} (hg : g + 3 < 11) (hV : zV G) : ∀ (d b : Nat) (D : zD) (x : nz_S) (lev : Nat), zI G D → zJ D → sK x D → zK x g G → b < G.1 → D.2.1 b = none → G.1 - D.1 ≤ d → lev ≤ D.1 → ∃ y, fv_X5_visit g d (nI b) (nI lev) x = some (bm (snc (vis G d b D) D.1), y) ∧ sK y (vis G d b D) ∧ fW x y
  | 0, b, D, x, lev, hI, _, _, _, hb, hn, hd, _ => absurd (hI.lt hb hn) (by omega)
  | d + 1, b, D, x, lev, hI, hJ, hs, hk, hb, hn, hd, hlev => by
    have h12 := hV.1
    have hlt := hI.lt hb hn
    have hlb := hV.l hb
    obtain ⟨s1, s2, s3, s4⟩ := hs
    have c1 : ¬ (12 : Int32) ≤ nI lev := lt12 (by omega)
    have c2 : nI D.1 < 12 := (z_lt (b := 12) (by omega) (by omega)).mpr (by omega)
    have e1 : (nz_put x 12 b (nI D.1)).1 11 8 = nI D.1 := by rw [z_put1, if_neg (by omega), s1]
    have e2 : (nz_put (nz_put x 12 b (nI D.1)) 13 D.1 (nI b)).1 11 8 = nI D.1 := by rw [z_put1, if_neg (by omega), e1]
    obtain ⟨x8, h8⟩ : ∃ x8, x8 = nz_put (nz_put (nz_put x 12 b (nI D.1)) 13 D.1 (nI b)) 11 8 (nI (D.1 + 1)) := ⟨_, rfl⟩
    have f8 : fW x x8 := by
      rw [h8]
      exact ((fW_put x 12 b _ (by omega)).tr (fW_put _ 13 _ _ (by omega))).tr (fW_put _ 11 8 _ (by omega))
    have hs8 : sK x8 (dIn b D) := by
      refine ⟨?_, fun c hc => ?_, fun k hk2 => ?_, fun c hc hc2 => ?_⟩
      · rw [h8, z_put1, if_pos rfl, z_upd, if_pos rfl]; rfl
      · rw [h8, z_put1, if_neg (by omega), z_put1, if_neg (by omega), z_put1, if_pos rfl, z_upd]
        show _ = oi (if c = b then some D.1 else D.2.1 c)
        by_cases hcb : c = b
        · rw [if_pos hcb, if_pos hcb]; rfl
        · rw [if_neg hcb, if_neg hcb]; exact s2 c hc
      · have hk2 : k < D.1 + 1 := hk2
        have q : (nz_put x 12 b (nI D.1)).1 13 = x.1 13 := by rw [z_put1, if_neg (by omega)]
        rw [h8, z_put1, if_neg (by omega), z_put1, if_pos rfl, z_upd, q]
        show _ = nI (if k = D.1 then b else D.2.2.2 k)
        by_cases hkd : k = D.1
        · rw [if_pos hkd, if_pos hkd]
        · rw [if_neg hkd, if_neg hkd]; exact s3 k (by omega)
      · rw [h8, z_put1, if_neg (by omega), z_put1, if_neg (by omega), z_put1, if_neg (by omega), s4 c hc hc2]
        exact bm_ext (fun v _ => (dIn_abv hJ hn hc2 v).symm)
    have hfound : (1 : Int32) <<< (nI b &&& 31) = bm (snc (dIn b D) D.1) := by
      rw [bm_one b (by omega)]
      refine bm_ext (fun v _ => ?_)
      by_cases hvb : v = b
      · have : (dIn b D).2.1 v = some D.1 := by show up D.2.1 b (some D.1) v = _; rw [hvb, up_s]
        rw [snc_v this, decide_eq_true hvb, decide_eq_true (Nat.le_refl _)]
      · have : (dIn b D).2.1 v = D.2.1 v := by show up D.2.1 b (some D.1) v = _; rw [up_n _ _ hvb]
        rw [decide_eq_false hvb]
        cases hv : D.2.1 v with
        | none => rw [snc_n (this.trans hv)]
        | some k =>
          have := (hI.1 v k hv).2.1
          rw [snc_v (k := k) (by rw [‹(dIn b D).2.1 v = D.2.1 v›]; exact hv), decide_eq_false (by omega)]
    obtain ⟨p1, p2, p3, p4⟩ := vis_P hV (d + 1) b D hI hb hn hd
    rw [vis_s] at p1 p2 p3 p4
    rw [vis_s]
    obtain ⟨y, y1, y2, y3⟩ := kVis_55 hg hV (lev := lev) (r0 := D.1) (d := d) hb (fun t D2 x2 lv a1 a2 a3 a4 a5 a6 a7 a8 => kVis hg hV d t D2 x2 lv a1 a2 a3 a4 a5 a6 a7 a8) (fun u26 u27 x25 => nz_chk (nz_in (nI b) 12) (some (u26, nz_put x25 14 (nI b).toNatClampNeg u26))) (G.2.2 b).length 0 nz_F (dIn b D) x8 (by omega) (by unfold nz_F; omega) (dIn_I hI hb hn) (dIn_J hJ hn) hs8 (f8.K hg hk) (by show G.1 - (D.1 + 1) ≤ d; omega) (by show lev + 1 ≤ D.1 + 1; omega) (by show D.1 ≤ D.1 + 1; omega)
    rw [List.drop_zero] at y1 y2
    obtain ⟨E, hE⟩ : ∃ E, E = (G.2.2 b).foldl (stp G d) (dIn b D) := ⟨_, rfl⟩
    rw [← hE] at y1 y2 p1 p2 p3 p4 ⊢
    have hIE : zI G E := p1.1
    have p2 : E.2.1 b = some D.1 := p2
    have p4 : D.1 < E.1 := p4
    refine ⟨nz_put y 14 b (bm (snc E D.1)), ?_, ?_, (f8.tr y3).tr (fW_put _ 14 _ _ (by omega))⟩
    · show f_X5_visit (fv_X5_visit g d) g (nI b) (nI lev) x = _
      rw [← hfound, nI_0] at y1
      unfold f_X5_visit
      rw [if_neg c1, s1, if_pos c2]
      simp only [z_in (show b < 12 by omega) (by omega), z_chk, z_N (show b < 2147483648 by omega), e1, z_in (show D.1 < 12 by omega) (by omega), z_N (show D.1 < 2147483648 by omega), e2, nI_1]
      rw [← h8]
      simp only [z_in (show b < 12 by omega) (by omega), z_chk, z_N (show b < 2147483648 by omega)] at y1
      exact y1
    · obtain ⟨t1, t2, t3, t4⟩ := y2
      refine ⟨?_, fun c hc => ?_, fun k hk2 => ?_, fun c hc hc2 => ?_⟩
      · rw [z_put1, if_neg (by omega), t1]; rfl
      · rw [z_put1, if_neg (by omega), t2 c hc]; rfl
      · rw [z_put1, if_neg (by omega), t3 k hk2]; rfl
      · rw [z_put1, if_pos rfl, z_upd]
        by_cases hcb : c = b
        · rw [if_pos hcb, hcb]
          refine bm_ext (fun v _ => ?_)
          cases hv : E.2.1 v with
          | none => rw [snc_n hv, abv_n2 (D := dOut b E) hv]
          | some k =>
            have hk3 := (hIE.1 v k hv).2.1
            rw [snc_v hv, abv_v (D := dOut b E) p2 hv p3]
            have : (dOut b E).1 = E.1 := rfl
            rw [this, decide_eq_true (show k ≤ E.1 - 1 by omega), Bool.and_true]
        · have lo : (dOut b E).2.2.1 c = E.2.2.1 c := by show up E.2.2.1 b _ c = _; rw [up_n _ _ hcb]
          rw [lo] at hc2
          rw [if_neg hcb, t4 c hc hc2]
          refine bm_ext (fun v _ => ?_)
          unfold abv
          rw [lo]
          rfl
