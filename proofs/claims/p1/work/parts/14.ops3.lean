/-! theme, open, sheet, many, change, wouldMeet -/
section YQ
variable {z : Nat} {t : Int32} {v : Int64} {w : xWd}
theorem y_val (x : Int32) (a : Nat) (ha : a < w.2.1) : ∃ (v0 : Nat) (w' : xWd), f_J6_valueOf_2dffe x w = some (some v0, w') ∧ yKp w w' ∧ ∀ w'' : xWd, w''.2.2 = w'.2.2 → (∀ q, q ≠ a → q < w'.2.1 → w''.1 q = w'.1 q) → xk_any w'' (some v0) = some () := by
  have hn : ∃ w' : xWd, f_J6_valueOf_2dffe_23 x w = some (some w.2.1, w') ∧ yKp w w' ∧ ∀ w'' : xWd, w''.2.2 = w'.2.2 → (∀ q, q ≠ a → q < w'.2.1 → w''.1 q = w'.1 q) → xk_any w'' (some w.2.1) = some () := by
    refine ⟨(va_up w.1 w.2.1 (some (.inr (9, [.int x]))), w.2.1 + 1, w.2.2), ?_, yKp.nw w _, fun w'' _ hq => xr_any ((hq _ (by omega) (Nat.lt_succ_self _)).trans (xk_up_s _ _ _))⟩
    unfold f_J6_valueOf_2dffe_23 f_J6_init_d00df f_Jxd2413_init_da8c8 xk_nw
    rw [Option.bind_some, Option.bind_some, xk_nw_pV (by simp [xf_9]), Option.bind_some, Option.bind_some]
    rfl
  unfold f_J6_valueOf_2dffe
  by_cases h1 : x < (-128 : Int32)
  · rw [if_pos h1]
    obtain ⟨w', e1, e2⟩ := hn
    exact ⟨w.2.1, w', e1, e2⟩
  · rw [if_neg h1]
    by_cases h2 : (127 : Int32) < x
    · rw [if_pos h2]
      obtain ⟨w', e1, e2⟩ := hn
      exact ⟨w.2.1, w', e1, e2⟩
    · rw [if_neg h2]
      obtain ⟨i, hi1, hi2, -⟩ := bx_small h1 h2
      have hi3 : (x + (128 : Int32)).toNatClampNeg = i := by rw [hi2]; exact Int32.toNatClampNeg_ofNat_of_lt (by omega)
      refine ⟨_, w, rfl, yKp.rf w, fun w'' he _ => ?_⟩
      rw [hi3, ← he]
      exact xk_any_c hi1
theorem y_theme (hx : yXW z w) (hm : yMW z t w) (ho : yOW z v w) (x1 : Int32) : yOK z w (f_L_theme (some z) x1 (some (z + 15)) w) (f_X8_theme (some (z + 10)) x1) := by
  have hmB := hm.kp (yKp.bp w)
  have hz := hm.2.2.2.2.2.2.2
  have no : (x1 < 0 ∨ ¬ x1 ≤ 2400) → yOK z w (f_L_theme (some z) x1 (some (z + 15)) w) (f_X8_theme (some (z + 10)) x1) := by
    intro c
    have eF : f_X4_theme (some z) x1 w = none := by
      unfold f_X4_theme f_X4_theme_12
      simp only [yxf hx, Option.bind_some]
      by_cases c1 : x1 < 0
      · rw [if_pos c1]
      · rw [if_neg c1, if_neg (c.resolve_left c1)]
    have eE : e_X4_theme (some z) x1 w = some (0, yBp w) := by
      unfold e_X4_theme e_X4_theme_12
      simp only [yxf hx, Option.bind_some]
      by_cases c1 : x1 < 0
      · rw [if_pos c1]; rfl
      · rw [if_neg c1, if_neg (c.resolve_left c1)]; rfl
    have eM : f_X8_theme (some (z + 10)) x1 (yBp w) = some (0, yTh z 1 (yBp w)) := by
      have e18 : f_X8_theme_18 (some (z + 10)) x1 1 (some (z + 10)) (yBp w) = some (0, yTh z 1 (yBp w)) := by
        simp [f_X8_theme_18, f_X8_theme_49, ymf hmB, y_start1 hmB]
      unfold f_X8_theme
      simp only [ymf hmB, Option.bind_some, y_isIn]
      by_cases c1 : x1 < 0
      · rw [if_pos c1, if_pos rfl]; exact e18
      · rw [if_neg c1, if_pos (Int32.not_le.mp (c.resolve_left c1)), if_pos rfl]; exact e18
    exact yOK_no (k := 1) (by simp [f_L_theme, yxf hx, eF, eE, xk_or]) eM hm (by decide)
  by_cases c1 : x1 < 0
  · exact no (Or.inl c1)
  by_cases c2 : x1 ≤ 2400
  case neg => exact no (Or.inr c2)
  -- the class
  have s1 : xk_sI 0 w (some (z + 2)) 0 x1 = some (va_up w.1 (z + 2) (some (.inl (0, 4, .inl (upd (fun _ => 0) 0 x1)))), w.2) := by
    simp only [xk_sI, xk_arr, hx.2.2.2.2, Option.bind_some]
    rw [if_pos ⟨trivial, by decide⟩]
    rfl
  have hz1 : (va_up w.1 (z + 2) (some (.inl (0, 4, .inl (upd (fun _ => 0) 0 x1)))) : Nat → Option xE) z = w.1 z := xk_up_n _ _ (by omega)
  obtain ⟨w8, e8⟩ : ∃ w8 : xWd, w8 = (va_up w.1 (z + 2) (some (.inl (0, 4, .inl (upd (fun _ => 0) 0 x1)))), w.2) := ⟨_, rfl⟩
  rw [← e8] at s1
  have k8 : w8.1 z = w.1 z := by rw [e8]; exact hz1
  obtain ⟨w10, f10, g10, h10, q10⟩ := y_pv (β := Int32 × xWd) (k := 2) (v := .int ((0 : Int32) + (1 : Int32))) (k8.trans hx.1) (by simp)
  have eF : f_X4_theme (some z) x1 w = some (0, w10) := by
    unfold f_X4_theme
    simp only [yxf hx, Option.bind_some, if_neg c1, if_pos c2, show ((0 : Int32) < 4) = True by decide, if_true, s1, xr_gI (k := 2) (k8.trans hx.1) rfl, f10, xr_gI (k := 2) g10 rfl]
    rfl
  have q11 : ∀ q, q ≠ z → q ≠ z + 2 → w10.1 q = w.1 q := fun q h1 h2 => by
    refine (q10 q h1).trans ?_
    rw [e8]
    exact xk_up_n _ _ h2
  obtain ⟨wA, b1, b2, b3⟩ := y_wrap eF (⟨by rw [h10, e8]; exact Nat.le_refl _, by rw [h10, e8], fun q hq => q11 q (by omega) (by omega)⟩ : yCl z w w10) (q11 _ (by omega) (by omega)) ho
  have hmA := hm.cl b2
  have m0 : yMW z 0 (yTh z 0 wA) := hmA.th
  obtain ⟨v0, w2, d1, d2, d3⟩ := y_val (w := yTh z 0 wA) x1 (z + 12) (by have := m0.2.2.2.2.2.2.2; omega)
  obtain ⟨w3, g1, g2, g3, g4, g5⟩ := y_addM m0 d2 (a := z + 12) (v0 := v0) (Or.inr (Or.inl rfl)) d3
  have m2 := m0.kp d2
  have eM : f_X8_theme (some (z + 10)) x1 wA = some (0, w3) := by
    unfold f_X8_theme f_X8_theme_18 f_X8_theme_42
    simp only [ymf hmA, Option.bind_some, y_isIn, if_neg c1, show ((2400 : Int32) < x1) = False from eq_false (Int32.not_lt.mpr c2), if_false, show ((1 : Int32) = 0) = False by decide, y_start0 hmA, ymf m0, if_true, show ((0 : Int32) = 4) = False by decide, y_refuse0 m0, d1, ymf m2, g1, g3, g4, yMf_r g2]
    rfl
  exact ⟨0, wA, 0, w3, _, by unfold f_L_theme; rw [(yxf hx).1, Option.bind_some]; exact b1 _, b2, eM, g2, (yMo.th z 0 wA).tr g5, fun _ => b3⟩
theorem y_open (hx : yXW z w) (hm : yMW z t w) (ho : yOW z v w) (x1 : Int32) : yOK z w (f_L_open (some z) x1 (some (z + 15)) w) (f_X8_open (some (z + 10)) x1) := by
  have hmB := hm.kp (yKp.bp w)
  have hz := hm.2.2.2.2.2.2.2
  have no : (x1 < 1 ∨ ¬ x1 ≤ 60) → yOK z w (f_L_open (some z) x1 (some (z + 15)) w) (f_X8_open (some (z + 10)) x1) := by
    intro c
    have eF : f_X4_open (some z) x1 w = none := by
      unfold f_X4_open f_X4_open_11
      by_cases c1 : x1 < 1
      · rw [if_pos c1]
      · rw [if_neg c1, if_neg (c.resolve_left c1)]
    have eE : e_X4_open (some z) x1 w = some (0, yBp w) := by
      unfold e_X4_open e_X4_open_11
      by_cases c1 : x1 < 1
      · rw [if_pos c1]; rfl
      · rw [if_neg c1, if_neg (c.resolve_left c1)]; rfl
    have eM : f_X8_open (some (z + 10)) x1 (yBp w) = some (0, yTh z 1 (yBp w)) := by
      have e18 : f_X8_open_16 (some (z + 10)) x1 1 (some (z + 10)) (yBp w) = some (0, yTh z 1 (yBp w)) := by
        simp [f_X8_open_16, f_X8_open_43, ymf hmB, y_start1 hmB]
      unfold f_X8_open
      simp only [Option.bind_some, y_isIn]
      by_cases c1 : x1 < 1
      · rw [if_pos c1, if_pos rfl]; exact e18
      · rw [if_neg c1, if_pos (Int32.not_le.mp (c.resolve_left c1)), if_pos rfl]; exact e18
    exact yOK_no (k := 1) (by simp [f_L_open, yxf hx, eF, eE, xk_or]) eM hm (by decide)
  by_cases c1 : x1 < 1
  · exact no (Or.inl c1)
  by_cases c2 : x1 ≤ 60
  case neg => exact no (Or.inr c2)
  obtain ⟨w5, f5, g5, h5, q5⟩ := y_pv (β := Int32 × xWd) (k := 7) (v := .int x1) hx.1 (by simp)
  have l4 : yEm w5 (z + 4) := by
    unfold yEm
    rw [q5 _ (by omega), h5]
    exact hx.2.2.2.1
  have eF : f_X4_open (some z) x1 w = some (0, w5) := by
    unfold f_X4_open
    simp only [yxf hx, Option.bind_some, if_neg c1, if_pos c2, show ((0 : Int32) ≤ 0) = True by decide, if_true, f5, xr_gR (k := 4) g5 rfl, yem_f l4]
  obtain ⟨wA, b1, b2, b3⟩ := y_wrap eF (⟨by rw [h5]; exact Nat.le_refl _, by rw [h5], fun q hq => q5 q (by omega)⟩ : yCl z w w5) (q5 _ (by omega)) ho
  have hmA := hm.cl b2
  have m0 : yMW z 0 (yTh z 0 wA) := hmA.th
  obtain ⟨w6, f6, g6, h6, q6⟩ := y_pv (β := Int32 × xWd) (k := 7) (v := .int x1) m0.1 (by simp [yMf])
  obtain ⟨w7, f7, g7, h7, q7⟩ := y_pv (β := Int32 × xWd) (k := 8) (v := .int (0 : Int32)) g6 (by simp [yMf])
  have l14 : yEm w7 (z + 14) := by
    unfold yEm
    rw [q7 _ (by omega), q6 _ (by omega), h7, h6]
    exact m0.2.2.2.2.1
  have eM : f_X8_open (some (z + 10)) x1 wA = some (0, w7) := by
    unfold f_X8_open f_X8_open_16 f_X8_open_36
    simp only [ymf hmA, Option.bind_some, y_isIn, if_neg c1, show ((60 : Int32) < x1) = False from eq_false (Int32.not_lt.mpr c2), if_false, show ((1 : Int32) = 0) = False by decide, y_start0 hmA, ymf m0, if_true, show ((0 : Int32) ≤ 0) = True by decide, y_refuse0 m0, f6, f7, xr_gR (k := 6) g7 rfl, yem_f l14]
  exact ⟨0, wA, 0, w7, _, by unfold f_L_open; rw [(yxf hx).1, Option.bind_some]; exact b1 _, b2, eM, g7, (yMo.th z 0 wA).tr (fun q hq => (q7 q (by omega)).trans (q6 q (by omega))), fun _ => b3⟩
theorem y_sheet (hx : yXW z w) (hm : yMW z t w) (ho : yOW z v w) (x1 : Int32) : yOK z w (f_L_sheet (some z) x1 (some (z + 15)) w) (f_X8_sheet (some (z + 10)) x1) := by
  have hmB := hm.kp (yKp.bp w)
  have l1 := y_ls 3 4 (by decide) x1
  have no : (x1 < 0 ∨ ¬ x1 < 4) → yOK z w (f_L_sheet (some z) x1 (some (z + 15)) w) (f_X8_sheet (some (z + 10)) x1) := by
    intro c
    have eF : f_X4_sheet (some z) x1 w = none := by
      unfold f_X4_sheet f_X4_sheet_9
      by_cases c1 : x1 < 0
      · rw [if_pos c1]
      · rw [if_neg c1, if_neg (c.resolve_left c1)]
    have eE : e_X4_sheet (some z) x1 w = some (2, yBp w) := by
      unfold e_X4_sheet e_X4_sheet_9
      by_cases c1 : x1 < 0
      · rw [if_pos c1]; rfl
      · rw [if_neg c1, if_neg (c.resolve_left c1)]; rfl
    have eM : f_X8_sheet (some (z + 10)) x1 (yBp w) = some (0, yTh z 1 (yBp w)) := by
      have e18 : f_X8_sheet_15 (some (z + 10)) x1 1 (some (z + 10)) (yBp w) = some (0, yTh z 1 (yBp w)) := by
        simp [f_X8_sheet_15, f_X8_sheet_31, ymf hmB, y_start1 hmB]
      unfold f_X8_sheet
      simp only [Option.bind_some, y_isIn, l1]
      by_cases c1 : x1 < 0
      · rw [if_pos c1, if_pos rfl]; exact e18
      · rw [if_neg c1, if_pos (Int32.not_lt.mp (c.resolve_left c1)), if_pos rfl]; exact e18
    exact yOK_no (k := 1) (by simp [f_L_sheet, yxf hx, eF, eE, xk_or]) eM hm (by decide)
  by_cases c1 : x1 < 0
  · exact no (Or.inl c1)
  by_cases c2 : x1 < 4
  case neg => exact no (Or.inr c2)
  have eF : f_X4_sheet (some z) x1 w = some (0, w) := by
    unfold f_X4_sheet
    simp only [yxf hx, Option.bind_some, if_neg c1, if_pos c2, show ((0 : Int32) ≤ 0) = True by decide, if_true]
  obtain ⟨wA, b1, b2, b3⟩ := y_wrap eF (yCl.rf z w) rfl ho
  have hmA := hm.cl b2
  have m0 : yMW z 0 (yTh z 0 wA) := hmA.th
  have eM : f_X8_sheet (some (z + 10)) x1 wA = some (0, yTh z 0 wA) := by
    unfold f_X8_sheet f_X8_sheet_15 f_X8_sheet_31
    simp only [ymf hmA, Option.bind_some, y_isIn, if_neg c1, l1, show ((4 : Int32) ≤ x1) = False from eq_false (Int32.not_le.mpr c2), if_false, show ((1 : Int32) = 0) = False by decide, y_start0 hmA, ymf m0, if_true, y_sheetNow m0]
  exact ⟨0, wA, 0, yTh z 0 wA, _, by unfold f_L_sheet; rw [(yxf hx).1, Option.bind_some]; exact b1 _, b2, eM, xk_up_s _ _ _, yMo.th z 0 wA, fun _ => b3⟩
theorem y_manyNow (hm : yMW z t w) {x : Int32} (hx : x = 0 ∨ x = 1 ∨ x = 2 ∨ x = 3 ∨ x = 4 ∨ x = 5 ∨ x = 6 ∨ x = 7 ∨ x = 8 ∨ x = 9 ∨ x = 10 ∨ x = 11 ∨ x = 12 ∨ x = 13 ∨ x = 14 ∨ x = 15) : ∃ w1 : xWd, f_X8_manyNow (some (z + 10)) x w = some (yV x, w1) ∧ yKp w w1 := by
  obtain ⟨w2, w4, a1, a2, a3, a4⟩ := y_row0 w
  have m2 := hm.kp a2
  have m4 := hm.kp a4.1
  obtain ⟨w6, b1, b2⟩ := y_st (K := 1) a4 (by decide) (by decide) (by decide)
  have m6 := hm.kp b2.1
  obtain ⟨w10, c1, c2⟩ := y_st (K := 2) b2 (by decide) (by decide) (by decide)
  have m10 := hm.kp c2.1
  obtain ⟨w11, d1, d2⟩ := y_gone m10
  obtain ⟨w13, e1, e2⟩ := y_st (K := 3) (c2.kp d2) (by decide) (by decide) (by decide)
  have m13 := hm.kp e2.1
  obtain ⟨w14, f1, f2⟩ := y_met m13
  obtain ⟨w16, g1, g2⟩ := y_st (K := 4) (e2.kp f2) (by decide) (by decide) (by decide)
  have m16 := hm.kp g2.1
  obtain ⟨w20, h1, h2⟩ := y_st (K := 5) g2 (by decide) (by decide) (by decide)
  have m20 := hm.kp h2.1
  obtain ⟨w24, i1, i2⟩ := y_st (K := 6) h2 (by decide) (by decide) (by decide)
  obtain ⟨w25, j1, j2⟩ := y_st (K := 7) i2 (by decide) (by decide) (by decide)
  obtain ⟨w26, k1, k2⟩ := y_st (K := 8) j2 (by decide) (by decide) (by decide)
  have m26 := hm.kp k2.1
  obtain ⟨w29, l1, l2⟩ := y_st (K := 9) k2 (by decide) (by decide) (by decide)
  have m29 := hm.kp l2.1
  obtain ⟨w33, n1, n2⟩ := y_st (K := 10) l2 (by decide) (by decide) (by decide)
  obtain ⟨w34, o1, o2⟩ := y_st (K := 11) n2 (by decide) (by decide) (by decide)
  have m34 := hm.kp o2.1
  obtain ⟨w36, p1, p2⟩ := y_st (K := 12) o2 (by decide) (by decide) (by decide)
  have m36 := hm.kp p2.1
  obtain ⟨w38, q1, q2⟩ := y_st (K := 13) p2 (by decide) (by decide) (by decide)
  have m38 := hm.kp q2.1
  obtain ⟨w40, r1, r2⟩ := y_st (K := 14) q2 (by decide) (by decide) (by decide)
  obtain ⟨w41, s1, s2⟩ := y_st (K := 15) r2 (by decide) (by decide) (by decide)
  refine ⟨w41, ?_, s2.1⟩
  have e4 : f_X8_manyNow_99 20 (some (z + 10)) x 0 0 0 0 4 w = some (yV x, w41) := by
    unfold f_X8_manyNow_99
    simp only [show ((4 : Int32) ≤ 4) = True by decide, if_true, a1, Option.bind_some, ymf m2, a3, ymf m4, b1, ymf m6, c1, ymf m10, d1, e1, ymf m13, f1, g1, ymf m16, h1, ymf m20, i1, j1, k1, ymf m26, y_clashes m26, l1, ymf m29, n1, o1, ymf m34, p1, ymf m36, q1, ymf m38, r1, s1, y_rd s2 hx]
  have st : ∀ (n : Nat) (k : Int32), (4 : Int32) ≤ k → False ∨ True := fun _ _ _ => Or.inr trivial
  unfold f_X8_manyNow
  simp only [ymf hm, Option.bind_some, show ((0 : Int32) ≤ 0) = True by decide, if_true]
  unfold f_X8_manyNow_99
  simp only [show ((4 : Int32) ≤ 0) = False by decide, if_false, ymf hm, Option.bind_some, y_sheetNow hm]
  unfold f_X8_manyNow_99
  simp only [show ((4 : Int32) ≤ 0 + 1) = False by decide, if_false, ymf hm, Option.bind_some, y_sheetNow hm]
  unfold f_X8_manyNow_99
  simp only [show ((4 : Int32) ≤ 0 + 1 + 1) = False by decide, if_false, ymf hm, Option.bind_some, y_sheetNow hm]
  unfold f_X8_manyNow_99
  simp only [show ((4 : Int32) ≤ 0 + 1 + 1 + 1) = False by decide, if_false, ymf hm, Option.bind_some, y_sheetNow hm]
  exact e4
theorem y_many (hx : yXW z w) (hm : yMW z t w) (ho : yOW z v w) (x1 : Int32) : yOK z w (f_L_many (some z) x1 (some (z + 15)) w) (f_X8_many (some (z + 10)) x1) := by
  have hmB := hm.kp (yKp.bp w)
  have no : (x1 < 0 ∨ 15 < x1) → yOK z w (f_L_many (some z) x1 (some (z + 15)) w) (f_X8_many (some (z + 10)) x1) := by
    intro c
    have eM : f_X8_many (some (z + 10)) x1 (yBp w) = some (0, yTh z 1 (yBp w)) := by
      have e18 : f_X8_many_16 (some (z + 10)) x1 1 (some (z + 10)) (yBp w) = some (0, yTh z 1 (yBp w)) := by
        simp [f_X8_many_16, f_X8_many_32, ymf hmB, y_start1 hmB]
      unfold f_X8_many
      simp only [Option.bind_some, y_isIn]
      by_cases c1 : x1 < 0
      · rw [if_pos c1, if_pos rfl]; exact e18
      · rw [if_neg c1, if_pos (c.resolve_left c1), if_pos rfl]; exact e18
    exact yOK_no (k := 1) (by simp [f_L_many, yxf hx, y_xmanyN hx c, xk_or]) eM hm (by decide)
  by_cases c1 : x1 < 0
  · exact no (Or.inl c1)
  by_cases c2 : 15 < x1
  · exact no (Or.inr c2)
  have hin := y_in16 c1 c2
  obtain ⟨wA, b1, b2, b3⟩ := y_wrap (y_xmany hx hin) (yCl.rf z w) rfl ho
  have hmA := hm.cl b2
  have m0 : yMW z 0 (yTh z 0 wA) := hmA.th
  obtain ⟨w1, d1, d2⟩ := y_manyNow m0 hin
  have eM : f_X8_many (some (z + 10)) x1 wA = some (yV x1, w1) := by
    unfold f_X8_many f_X8_many_16 f_X8_many_32
    simp only [ymf hmA, Option.bind_some, y_isIn, if_neg c1, if_neg c2, if_false, show ((1 : Int32) = 0) = False by decide, y_start0 hmA, ymf m0, if_true, d1]
  have hzA := m0.2.2.2.2.2.2.2
  exact ⟨0, wA, yV x1, w1, _, by unfold f_L_many; rw [(yxf hx).1, Option.bind_some]; exact b1 _, b2, eM, (m0.kp d2).1, (yMo.th z 0 wA).tr (yMo.kp d2 hzA), fun _ => b3⟩
end YQ
