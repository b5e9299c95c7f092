theorem kGatK {G : zG} {D : zD} {W : zW} (hH : ∀ b h, W.1 b = some h → h < 12) {w : Nat} (hw : w < 12) {x : nz_S} (hx : kW x W) (h14 : x.1 14 w = bm (abv D w)) (hb : lb (bk0 G D w) 12 < 12) {v : Int32} {t : Nat} (hv : v = nI t) (ht : (gS0 G D W w).2.2.2 = t) : ∃ y, (f_X5_gather_47 (nI w) nz_F (bm (bd0 G D W.1 w)) (0 : Int32) (0 : Int32) (nz_put x 19 w v) fun u48 _ _ x47 => f_X5_gather_155 (nI w) u48 nz_F (0 : Int32) x47 fun _ x51 => some ((), x51)) = some ((), y) ∧ kW y (gat G D w W) ∧ fH x y := by
  obtain ⟨x18, x19, x17⟩ := hx
  rw [hv]
  have fx : fG w x (nz_put x 19 w (nI t)) := fG_put w x 19 _ (by omega)
  have a1 : (gS0 G D W w).1 w = false := by rw [gS0_1, bd0_w]
  have a2 : ∀ c, c < 12 → (nz_put x 19 w (nI t)).1 18 c = oi (W.1 c) := fun c hc => by rw [fx.1 18 (by omega) (by omega)]; exact x18 c hc
  have a3 : (nz_put x 19 w (nI t)).1 14 w = bm (abv D w) := by rw [fx.1 14 (by omega) (by omega)]; exact h14
  have a4 : ∀ c, c < 12 → c ≠ w → (nz_put x 19 w (nI t)).1 17 c = bm (W.2.2 c) := fun c hc hcw => by rw [(fx.2.1 c hcw).1]; exact x17 c hc
  have a5 : (nz_put x 19 w (nI t)).1 17 w = bm (gS0 G D W w).2.2.1 := by rw [z_put1, if_neg (by omega), gS0_3]; exact x17 w hw
  have a6 : (nz_put x 19 w (nI t)).1 19 w = nI (gS0 G D W w).2.2.2 := by rw [z_put1, if_pos rfl, z_upd, if_pos rfl, ht]
  obtain ⟨y, i', y1, y2, y3, y4⟩ := kGat_47 (D := D) (En := W.2.2) hH hw (fun u48 _ _ x47 => f_X5_gather_155 (nI w) u48 nz_F (0 : Int32) x47 fun _ x51 => some ((), x51)) 12 0 nz_F (gS0 G D W w) (nz_put x 19 w (nI t)) (by omega) (by unfold nz_F; omega) a1 a2 a3 a4 a5 a6
  have e0 : bm (gS0 G D W w).2.1 = 0 := by rw [gS0_2]; exact bm_0.mpr (fun _ _ => rfl)
  have e1 : gLp D W.1 W.2.2 w 12 (gS0 G D W w) = gS1 G D W w := by rw [gS1]
  rw [e0, nI_0, e1, gS0_1] at y1
  rw [e1] at y2 y3
  obtain ⟨z, z1, z2, z3, z4⟩ := kGat_155 (gS1 G D W w).1 (w := w) (fun _ x51 => some ((), x51)) 12 0 nz_F y (by omega) (by unfold nz_F; omega)
  rw [nI_0] at z1
  have fy := fx.tr y4
  refine ⟨z, y1.trans z1, ⟨fun c hc => ?_, fun c hc => ?_, fun c hc => ?_⟩, fun c hc => ?_, ?_⟩
  · rw [z2 c hc, fy.1 18 (by omega) (by omega), x18 c hc, gat_1 hb, decide_eq_true hc, Bool.true_and]
    by_cases hq : (gS1 G D W w).1 c = true
    · rw [if_pos ⟨by omega, hq⟩, if_pos hq, oi_some]
    · rw [if_neg (fun h => hq h.2), if_neg hq]
  · rw [z3 19 (by omega), gat_2 hb]
    by_cases hcw : c = w
    · rw [if_pos hcw, hcw]; exact y3
    · rw [if_neg hcw, (fy.2.1 c hcw).2]; exact x19 c hc
  · rw [z3 17 (by omega), gat_3 hb]
    by_cases hcw : c = w
    · rw [if_pos hcw, hcw]; exact y2
    · rw [if_neg hcw, (fy.2.1 c hcw).1]; exact x17 c hc
  · rw [z3 c (by omega), fy.1 c (by omega) (by omega)]
  · rw [z4, fy.2.2]
theorem kGat {G : zG} {D : zD} {W : zW} (hH : ∀ b h, W.1 b = some h → h < 12) {w : Nat} (hw : w < 12) {x : nz_S} (hx : kW x W) (h14 : x.1 14 w = bm (abv D w)) (h16 : x.1 16 w = bm (bk0 G D w)) : ∃ y, f_X5_gather (nI w) x = some ((), y) ∧ kW y (gat G D w W) ∧ fH x y := by
  by_cases hb : lb (bk0 G D w) 12 < 12
  · have hbd : bm (lds W.1 (bk0 G D w) 12) &&& (((1 : Int32) <<< (nI w &&& 31)) ^^^ (-1)) = bm (bd0 G D W.1 w) := by rw [bm_one w hw, bm_dif]; rfl
    have hn0 := lb12.mp hb
    by_cases h0 : bm (bd0 G D W.1 w) = 0
    · obtain ⟨y, y1, y2⟩ := kGatK (v := 1) (t := 1) hH hw hx h14 hb rfl (by rw [gS0_4, if_neg (fun q => lb12.mp q h0)])
      refine ⟨y, ?_, y2⟩
      unfold f_X5_gather
      simp only [z_in hw (by omega), z_chk, z_N (show w < 2147483648 by omega), h16, hn0, if_false, kLds hH hx.1, z_bnd, hbd, h0, if_true]
      rw [h0] at y1
      exact y1
    · obtain ⟨y, y1, y2⟩ := kGatK (v := 2) (t := 2) hH hw hx h14 hb rfl (by rw [gS0_4, if_pos (lb12.mpr h0)])
      refine ⟨y, ?_, y2⟩
      unfold f_X5_gather
      simp only [z_in hw (by omega), z_chk, z_N (show w < 2147483648 by omega), h16, hn0, if_false, kLds hH hx.1, z_bnd, hbd, h0]
      exact y1
  · have h0 : bm (bk0 G D w) = 0 := by
      by_cases q : bm (bk0 G D w) = 0
      · exact q
      · exact absurd (lb12.mpr q) hb
    refine ⟨x, ?_, by rw [gat_n hb]; exact hx, fH.rf x⟩
    unfold f_X5_gather
    simp only [z_in hw (by omega), z_chk, z_N (show w < 2147483648 by omega), h16, h0, if_true]
