/-! change, wouldMeet, cue, meanNote, digest -/
section YR
variable {z : Nat} {t : Int32} {v : Int64} {w : xWd}
theorem y_cut (hx : yXW z w) (x1 x2 : Int32) : ∃ b : Bool, f_X4_refuseBadCut (some z) x1 x2 w = (if b then none else some w) ∧ e_X4_refuseBadCut (some z) x1 x2 w = (if b then some (0, yBp w) else none) ∧ ∀ (t : Int32) (w' : xWd), yMW z t w' → f_X8_isNoChange (some (z + 10)) x1 x2 w' = some (if b then 1 else 0, w') := by
  have F : ∀ e : Option xWd, e = some w ∨ e = none → True := fun _ _ => trivial
  have no : (x1 < 0 ∨ 2400 < x1 ∨ x2 = 0 ∨ x2 < -999 ∨ ¬ x2 ≤ 999 ∨ (¬ 0 ≤ x2 ∧ (2400 < x1 - x2 ∨ ¬ 24 ≤ 2400 + x2))) → ∃ b : Bool, f_X4_refuseBadCut (some z) x1 x2 w = (if b then none else some w) ∧ e_X4_refuseBadCut (some z) x1 x2 w = (if b then some (0, yBp w) else none) ∧ ∀ (t : Int32) (w' : xWd), yMW z t w' → f_X8_isNoChange (some (z + 10)) x1 x2 w' = some (if b then 1 else 0, w') := by
    intro c
    refine ⟨true, ?_, ?_, fun t w' hm => ?_⟩
    · unfold f_X4_refuseBadCut f_X4_refuseBadCut_30 f_X4_refuseBadCut_65
      simp only [yxf hx, Option.bind_some, if_true]
      by_cases c1 : x1 < 0
      · rw [if_pos c1]
      rw [if_neg c1]
      by_cases c2 : 2400 < x1
      · rw [if_pos c2]
      rw [if_neg c2]
      by_cases c3 : x2 = 0
      · rw [if_pos c3]
      rw [if_neg c3]
      by_cases c4 : x2 < -999
      · rw [if_pos c4]
      rw [if_neg c4]
      by_cases c5 : x2 ≤ 999
      case neg => rw [if_neg c5]
      rw [if_pos c5]
      rcases c with c | c | c | c | c | c
      · exact absurd c c1
      · exact absurd c c2
      · exact absurd c c3
      · exact absurd c c4
      · exact absurd c5 c
      rw [if_neg c.1]
      by_cases c6 : 2400 < x1 - x2
      · rw [if_pos c6]
      rw [if_neg c6, if_neg (c.2.resolve_left c6)]
    · unfold e_X4_refuseBadCut e_X4_refuseBadCut_30 e_X4_refuseBadCut_65
      simp only [yxf hx, Option.bind_some, if_true]
      by_cases c1 : x1 < 0
      · rw [if_pos c1]; rfl
      rw [if_neg c1]
      by_cases c2 : 2400 < x1
      · rw [if_pos c2]; rfl
      rw [if_neg c2]
      by_cases c3 : x2 = 0
      · rw [if_pos c3]; rfl
      rw [if_neg c3]
      by_cases c4 : x2 < -999
      · rw [if_pos c4]; rfl
      rw [if_neg c4]
      by_cases c5 : x2 ≤ 999
      case neg => rw [if_neg c5]; rfl
      rw [if_pos c5]
      rcases c with c | c | c | c | c | c
      · exact absurd c c1
      · exact absurd c c2
      · exact absurd c c3
      · exact absurd c c4
      · exact absurd c5 c
      rw [if_neg c.1]
      by_cases c6 : 2400 < x1 - x2
      · rw [if_pos c6]; rfl
      rw [if_neg c6, if_neg (c.2.resolve_left c6)]; rfl
    · unfold f_X8_isNoChange f_X8_isNoChange_54 f_X8_isNoChange_58 f_X8_isNoChange_59
      simp only [ymf hm, Option.bind_some, y_isIn, yzb, if_true]
      by_cases c1 : x1 < 0
      · rw [if_pos c1, if_pos rfl]
      rw [if_neg c1]
      by_cases c2 : 2400 < x1
      · rw [if_pos c2, if_pos rfl]
      rw [if_neg c2, if_neg (by decide)]
      by_cases c3 : x2 = 0
      · rw [if_pos c3]
      rw [if_neg c3]
      by_cases c4 : x2 < -999
      · rw [if_pos c4, if_pos rfl]
      rw [if_neg c4]
      by_cases c5 : x2 ≤ 999
      case neg => rw [if_pos (Int32.not_le.mp c5), if_pos rfl]
      rw [if_neg (Int32.not_lt.mpr c5), if_neg (by decide)]
      rcases c with c | c | c | c | c | c
      · exact absurd c c1
      · exact absurd c c2
      · exact absurd c c3
      · exact absurd c c4
      · exact absurd c5 c
      rw [if_neg c.1]
      by_cases c6 : 2400 < x1 - x2
      · rw [if_pos c6]
      rw [if_neg c6, if_neg (c.2.resolve_left c6)]
  by_cases c1 : x1 < 0
  · exact no (Or.inl c1)
  by_cases c2 : 2400 < x1
  · exact no (Or.inr (Or.inl c2))
  by_cases c3 : x2 = 0
  · exact no (Or.inr (Or.inr (Or.inl c3)))
  by_cases c4 : x2 < -999
  · exact no (Or.inr (Or.inr (Or.inr (Or.inl c4))))
  by_cases c5 : x2 ≤ 999
  case neg => exact no (Or.inr (Or.inr (Or.inr (Or.inr (Or.inl c5)))))
  by_cases c6 : ¬ 0 ≤ x2 ∧ (2400 < x1 - x2 ∨ ¬ 24 ≤ 2400 + x2)
  · exact no (Or.inr (Or.inr (Or.inr (Or.inr (Or.inr c6)))))
  have c5' : ¬ (999 : Int32) < x2 := Int32.not_lt.mpr c5
  refine ⟨false, ?_, ?_, fun t w' hm => ?_⟩
  · unfold f_X4_refuseBadCut f_X4_refuseBadCut_75
    simp only [yxf hx, Option.bind_some, if_neg c1, if_neg c2, if_neg c3, if_neg c4, if_pos c5]
    by_cases c7 : 0 ≤ x2
    · rw [if_pos c7]; rfl
    · have c8 : ¬ 2400 < x1 - x2 := fun q => c6 ⟨c7, Or.inl q⟩
      have c9 : 24 ≤ 2400 + x2 := Classical.byContradiction fun q => c6 ⟨c7, Or.inr q⟩
      rw [if_neg c7, if_neg c8, if_pos c9]; rfl
  · unfold e_X4_refuseBadCut e_X4_refuseBadCut_75
    simp only [yxf hx, Option.bind_some, if_neg c1, if_neg c2, if_neg c3, if_neg c4, if_pos c5]
    by_cases c7 : 0 ≤ x2
    · rw [if_pos c7]; rfl
    · have c8 : ¬ 2400 < x1 - x2 := fun q => c6 ⟨c7, Or.inl q⟩
      have c9 : 24 ≤ 2400 + x2 := Classical.byContradiction fun q => c6 ⟨c7, Or.inr q⟩
      rw [if_neg c7, if_neg c8, if_pos c9]; rfl
  · unfold f_X8_isNoChange f_X8_isNoChange_54 f_X8_isNoChange_58 f_X8_isNoChange_59
    simp only [ymf hm, Option.bind_some, y_isIn, yzb, if_neg c1, if_neg c2, if_neg c3, if_neg c4, if_neg c5', show ((1 : Int32) = 0) = False by decide, if_false]
    by_cases c7 : 0 ≤ x2
    · rw [if_pos c7]; rfl
    · have c8 : ¬ 2400 < x1 - x2 := fun q => c6 ⟨c7, Or.inl q⟩
      have c9 : 24 ≤ 2400 + x2 := Classical.byContradiction fun q => c6 ⟨c7, Or.inr q⟩
      rw [if_neg c7, if_neg c8, if_pos c9]; rfl
theorem y_change (hx : yXW z w) (hm : yMW z t w) (ho : yOW z v w) (x1 x2 : Int32) : yOK z w (f_L_change (some z) x1 x2 (some (z + 15)) w) (f_X8_change (some (z + 10)) x1 x2) := by
  have hmB := hm.kp (yKp.bp w)
  have hz := hm.2.2.2.2.2.2.2
  obtain ⟨b, eF, eE, eM⟩ := y_cut hx x1 x2
  cases b with
  | true =>
    have e1 : f_X4_change (some z) x1 x2 w = none := by simp [f_X4_change, yxf hx, eF]
    have e2 : e_X4_change (some z) x1 x2 w = some (0, yBp w) := by simp [e_X4_change, yxf hx, eF, eE, xk_or]
    exact yOK_no (k := 1) (r := 0) (by simp [f_L_change, yxf hx, e1, e2, xk_or]) (by simp [f_X8_change, f_X8_change_36, ymf hmB, eM _ _ hmB, y_start1 hmB]) hm (by decide)
  | false =>
    obtain ⟨w4, f4, g4, h4, q4⟩ := y_pv (β := Int32 × xWd) (k := 5) (v := .int ((2400 : Int32) + x2)) hx.1 (by simp)
    obtain ⟨w6, f6, g6, h6, q6⟩ := y_pv (β := Int32 × xWd) (k := 6) (v := .int ((0 : Int32) + (1 : Int32))) g4 (by simp)
    have e1 : f_X4_change (some z) x1 x2 w = some (0, w6) := by
      have eC : f_X4_cutCues (some z) x1 x2 w = some (0, w) := by simp [f_X4_cutCues, yxf hx]
      unfold f_X4_change f_X4_change_73
      simp only [yxf hx, Option.bind_some, eF, Bool.false_eq_true, if_false, show ((0 : Int32) < 20) = True by decide, show ((0 : Int32) ≤ 0) = True by decide, if_true, eC, f4, xr_gI (k := 6) g4 rfl, f6]
    obtain ⟨wA, b1, b2, b3⟩ := y_wrap e1 (⟨by rw [h6, h4]; exact Nat.le_refl _, by rw [h6, h4], fun q hq => (q6 q (by omega)).trans (q4 q (by omega))⟩ : yCl z w w6) ((q6 _ (by omega)).trans (q4 _ (by omega))) ho
    have hmA := hm.cl b2
    have m0 : yMW z 0 (yTh z 0 wA) := hmA.th
    have hz0 := m0.2.2.2.2.2.2.2
    obtain ⟨w7, i1, i2, i3, i4⟩ := y_it m0.2.2.2.1 (by omega)
    have m7 := m0.kp i2
    obtain ⟨w8, j1, j2, j3, j4⟩ := y_it m7.2.1 (by have := m7.2.2.2.2.2.2.2; omega)
    have m8 := m7.kp j2
    obtain ⟨w9, f9, g9, h9, q9⟩ := y_pv (β := Int32 × xWd) (k := 1) (v := .int ((2400 : Int32) + x2)) m8.1 (by simp [yMf])
    obtain ⟨wB, fB, gB, hB, qB⟩ := y_pv (β := Int32 × xWd) (k := 2) (v := .int ((0 : Int32) + (1 : Int32))) g9 (by simp [yMf])
    have eM2 : f_X8_change (some (z + 10)) x1 x2 wA = some (0, wB) := by
      unfold f_X8_change f_X8_change_29
      simp only [ymf hmA, Option.bind_some, eM _ _ hmA, Bool.false_eq_true, if_false, y_start0 hmA, ymf m0, show ((0 : Int32) = 20) = False by decide, if_true, y_refuse0 m0, i1, i3, i4, ymf m7, j1, j3, j4, ymf m8, show ((0 : Int32) ≤ 0) = True by decide, f9, xr_gI (k := 2) g9 rfl, fB]
    exact ⟨0, wA, 0, wB, _, by unfold f_L_change; rw [(yxf hx).1, Option.bind_some]; exact b1 _, b2, eM2, gB, (yMo.th z 0 wA).tr ((yMo.kp (i2.tr j2) hz0).tr (fun q hq => (qB q (by omega)).trans (q9 q (by omega)))), fun _ => b3⟩
theorem y_wouldNow (hm : yMW z t w) (x1 x2 : Int32) : ∃ w1 : xWd, f_X8_wouldMeetNow (some (z + 10)) x1 x2 w = some (0, w1) ∧ yKp w w1 := by
  obtain ⟨w1, a1, a2, a3, a4⟩ := y_frames hm
  have hm1 := hm.kp a2
  obtain ⟨w2, b1, b2, b3, b4⟩ := y_beats hm1
  have hm2 := hm1.kp b2
  have L1 := y_len0 (d := xk_d0) a3 (by decide)
  have L2 := y_len0 (d := xk_dR) b3 (by decide)
  have L := y_len0 (d := xk_d0) ((b2.2.2 _ a4).trans a3) (by decide)
  exact ⟨w2, by simp [f_X8_wouldMeetNow, ymf hm, a1, L1, ymf hm1, b1, L2, ymf hm2, y_met5 L], a2.tr b2⟩
theorem y_wouldMeet (hx : yXW z w) (hm : yMW z t w) (ho : yOW z v w) (x1 x2 : Int32) : yOK z w (f_L_wouldMeet (some z) x1 x2 (some (z + 15)) w) (f_X8_wouldMeet (some (z + 10)) x1 x2) := by
  have hmB := hm.kp (yKp.bp w)
  obtain ⟨b, eF, eE, eM⟩ := y_cut hx x1 x2
  cases b with
  | true =>
    have e1 : f_X4_wouldMeet (some z) x1 x2 w = none := by simp [f_X4_wouldMeet, yxf hx, eF]
    have e2 : e_X4_wouldMeet (some z) x1 x2 w = some (0, yBp w) := by simp [e_X4_wouldMeet, yxf hx, eF, eE, xk_or]
    exact yOK_no (k := 1) (r := 0) (by simp [f_L_wouldMeet, yxf hx, e1, e2, xk_or]) (by simp [f_X8_wouldMeet, f_X8_wouldMeet_24, ymf hmB, eM _ _ hmB, y_start1 hmB]) hm (by decide)
  | false =>
    have e1 : f_X4_wouldMeet (some z) x1 x2 w = some (0, w) := by simp [f_X4_wouldMeet, yxf hx, eF]
    obtain ⟨wA, b1, b2, b3⟩ := y_wrap e1 (yCl.rf z w) rfl ho
    have hmA := hm.cl b2
    have m0 : yMW z 0 (yTh z 0 wA) := hmA.th
    obtain ⟨w1, d1, d2⟩ := y_wouldNow m0 x1 x2
    have eM2 : f_X8_wouldMeet (some (z + 10)) x1 x2 wA = some (0, w1) := by
      unfold f_X8_wouldMeet f_X8_wouldMeet_24
      simp only [ymf hmA, Option.bind_some, eM _ _ hmA, Bool.false_eq_true, if_false, y_start0 hmA, ymf m0, if_true, d1]
    exact ⟨0, wA, 0, w1, _, by unfold f_L_wouldMeet; rw [(yxf hx).1, Option.bind_some]; exact b1 _, b2, eM2, (m0.kp d2).1, (yMo.th z 0 wA).tr (yMo.kp d2 m0.2.2.2.2.2.2.2), fun _ => b3⟩
theorem y_X0i (n x1 x2 x3 x4 x5 : Int32) (w : xWd) : ∃ w3 : xWd, f_X0_init w.2.1 n x1 x2 x3 x4 x5 (xk_nw w 1 xf_1) = some w3 ∧ (∃ fs, w3.1 w.2.1 = some (.inr (1, .int n :: fs))) ∧ yKp w w3 ∧ w.2.1 < w3.2.1 := by
  obtain ⟨w6, e6⟩ : ∃ w6 : xWd, w6 = (va_up w.1 w.2.1 (some (.inr (1, (((((xf_1.set 0 (.int n)).set 1 (.int x1)).set 2 (.int x2)).set 3 (.int x3)).set 4 (.int x4)).set 5 (.int x5)))), w.2.1 + 1, w.2.2) := ⟨_, rfl⟩
  have k6 : yKp w w6 := by rw [e6]; exact yKp.nw w _
  have c6 : w6.1 w.2.1 = some (.inr (1, (((((xf_1.set 0 (.int n)).set 1 (.int x1)).set 2 (.int x2)).set 3 (.int x3)).set 4 (.int x4)).set 5 (.int x5))) := by rw [e6]; exact xk_up_s _ _ _
  have n6 : w6.2.1 = w.2.1 + 1 := by rw [e6]
  obtain ⟨wa, fa, ga, ha, qa⟩ := y_al (β := xWd) (k := 8) (n := 9) (N := 9) c6 (by omega) rfl (by simp [xf_1]) (by decide) (by decide) (by decide)
  have na : wa.2.1 = w.2.1 + 2 := by rw [ha]; show w6.2.1 + 1 = _; omega
  obtain ⟨wb, fb, gb, hb, qb⟩ := y_al (β := xWd) (k := 9) (n := 9) (N := 9) ga (by omega) rfl (by simp [xf_1]) (by decide) (by decide) (by decide)
  have nb : wb.2.1 = w.2.1 + 3 := by rw [hb]; show wa.2.1 + 1 = _; omega
  obtain ⟨wc, fc, gc, hc, qc⟩ := y_al (β := xWd) (k := 12) (n := 63) (N := 63) gb (by omega) rfl (by simp [xf_1]) (by decide) (by decide) (by decide)
  have nc : wc.2.1 = w.2.1 + 4 := by rw [hc]; show wb.2.1 + 1 = _; omega
  refine ⟨wc, ?_, ⟨_, gc⟩, ⟨by omega, ?_, fun q hq => ?_⟩, by omega⟩
  · unfold f_X0_init xk_nw
    rw [xk_nw_pV (by simp [xf_1]), Option.bind_some, xk_nw_pV (by simp [xf_1]), Option.bind_some, xk_nw_pV (by simp [xf_1]), Option.bind_some, xk_nw_pV (by simp [xf_1]), Option.bind_some, xk_nw_pV (by simp [xf_1]), Option.bind_some, xk_nw_pV (by simp [xf_1]), Option.bind_some, ← e6, fa, fb, fc]
  · rw [hc]; show wb.2.2 = w.2.2; rw [hb]; show wa.2.2 = w.2.2; rw [ha]; exact k6.2.1
  · exact (qc q (by omega) (by omega)).trans ((qb q (by omega) (by omega)).trans ((qa q (by omega) (by omega)).trans (k6.2.2 q hq)))
theorem y_X5i (x1 x2 x3 x4 x5 : Int32) (w : xWd) : ∃ w3 : xWd, f_X5_init w.2.1 x1 x2 x3 x4 x5 (xk_nw w 6 xf_6) = some w3 ∧ (∃ fs, w3.1 w.2.1 = some (.inr (6, fs))) ∧ yKp w w3 ∧ w.2.1 < w3.2.1 := by
  obtain ⟨w6, e6⟩ : ∃ w6 : xWd, w6 = xk_nw w 6 xf_6 := ⟨_, rfl⟩
  have k6 : yKp w w6 := by rw [e6]; exact yKp.nw w _
  have c6 : w6.1 w.2.1 = some (.inr (6, xf_6)) := by rw [e6]; exact xk_up_s _ _ _
  have n6 : w6.2.1 = w.2.1 + 1 := by rw [e6]; rfl
  obtain ⟨wa, fa, ga, ha, qa⟩ := y_al (β := xWd) (k := 7) (n := 9) (N := 9) c6 (by omega) rfl (by simp [xf_6]) (by decide) (by decide) (by decide)
  have na : wa.2.1 = w.2.1 + 2 := by rw [ha]; show w6.2.1 + 1 = _; omega
  obtain ⟨wb, fb, gb, hb, qb⟩ := y_al (β := xWd) (k := 8) (n := 9) (N := 9) ga (by omega) rfl (by simp [xf_6]) (by decide) (by decide) (by decide)
  have nb : wb.2.1 = w.2.1 + 3 := by rw [hb]; show wa.2.1 + 1 = _; omega
  obtain ⟨wc, fc, gc, hc, qc⟩ := y_pv (β := xWd) (k := 0) (v := .int x1) gb (by simp [xf_6])
  obtain ⟨wd, fd, gd, hd, qd⟩ := y_pv (β := xWd) (k := 1) (v := .int x2) gc (by simp [xf_6])
  obtain ⟨we, fe, ge, he, qe⟩ := y_pv (β := xWd) (k := 2) (v := .int x3) gd (by simp [xf_6])
  obtain ⟨wf, ff, gf, hf, qf⟩ := y_pv (β := xWd) (k := 3) (v := .int x4) ge (by simp [xf_6])
  obtain ⟨wg, fg, gg, hg, qg⟩ := y_pv (β := xWd) (k := 4) (v := .int x5) gf (by simp [xf_6])
  have ng : wg.2 = wb.2 := by rw [hg, hf, he, hd, hc]
  refine ⟨wg, ?_, ⟨_, gg⟩, ⟨by rw [ng]; omega, ?_, fun q hq => ?_⟩, by rw [ng]; omega⟩
  · rw [← e6]
    unfold f_X5_init
    rw [fa, fb, fc, fd, fe, ff, fg]
  · rw [ng, hb]; show wa.2.2 = w.2.2; rw [ha]; exact k6.2.1
  · exact (qg q (by omega)).trans ((qf q (by omega)).trans ((qe q (by omega)).trans ((qd q (by omega)).trans ((qc q (by omega)).trans ((qb q (by omega) (by omega)).trans ((qa q (by omega) (by omega)).trans (k6.2.2 q hq)))))))
theorem y_cue (hx : yXW z w) (hm : yMW z t w) (ho : yOW z v w) (x1 x2 x3 x4 x5 : Int32) : yOK z w (f_L_cue (some z) x1 x2 x3 x4 x5 (some (z + 15)) w) (f_X8_cue (some (z + 10)) x1 x2 x3 x4 x5) := by
  have hmB := hm.kp (yKp.bp w)
  have hz := hm.2.2.2.2.2.2.2
  have l4 := y_ls 3 4 (by decide) x4
  by_cases c0 : x2 = -1
  case neg =>
    -- no such theme
    have d : x2 < -1 ∨ ¬ x2 < 0 := by
      by_cases q : x2 < -1
      · exact Or.inl q
      · refine Or.inr (fun q2 => c0 ?_)
        rw [Int32.lt_iff_toInt_lt] at q q2
        have e1 : (-1 : Int32).toInt = -1 := by decide
        have e2 : (0 : Int32).toInt = 0 := by decide
        rw [e1] at q
        rw [e2] at q2
        exact Int32.toInt_inj.mp (by rw [e1]; omega)
    have e1 : f_X4_cue (some z) x1 x2 x3 x4 x5 w = none := by
      unfold f_X4_cue f_X4_cue_13
      by_cases q : x2 < -1
      · rw [if_pos q]
      · simp only [yxf hx, Option.bind_some, if_neg q, if_neg (d.resolve_left q)]
    have e2 : e_X4_cue (some z) x1 x2 x3 x4 x5 w = some (2, yBp w) := by
      unfold e_X4_cue e_X4_cue_13
      by_cases q : x2 < -1
      · rw [if_pos q]; rfl
      · simp only [yxf hx, Option.bind_some, if_neg q, if_neg (d.resolve_left q)]; rfl
    refine yOK_no (k := 1) (r := 0) (by simp [f_L_cue, yxf hx, e1, e2, xk_or]) ?_ hm (by decide)
    unfold f_X8_cue f_X8_cue_28 f_X8_cue_115
    simp only [if_neg c0, ymf hmB, Option.bind_some, show (0 : Int32) - 1 = -1 by decide, y_isInN, if_true, y_start1 hmB, show ((1 : Int32) = 0) = False by decide, if_false]
  subst c0
  have m0B : yMW z 0 (yTh z 0 (yBp w)) := hmB.th
  have e83 : ∀ w' : xWd, w' = yTh z 0 (yBp w) → f_X8_cue_83 (some (z + 10)) x1 (-1) x3 x4 x5 1 (some (z + 10)) w' = some (0, yTh z 2 (yBp w)) := by
    intro w' e
    rw [e]
    unfold f_X8_cue_83 f_X8_cue_115
    simp only [ymf m0B, Option.bind_some, y_refuse1 m0B (show ¬ (2 : Int32) ≤ 0 by decide), show ((1 : Int32) = 0) = False by decide, if_false, yTh_th]
  have no : (x1 < 0 ∨ 2400 < x1 ∨ x3 < 1 ∨ ¬ x3 ≤ 40 ∨ x4 < 0 ∨ 4 ≤ x4 ∨ x5 < 0 ∨ ¬ x5 ≤ 2) → yOK z w (f_L_cue (some z) x1 (-1) x3 x4 x5 (some (z + 15)) w) (f_X8_cue (some (z + 10)) x1 (-1) x3 x4 x5) := by
    intro c
    have e1 : f_X4_cue (some z) x1 (-1) x3 x4 x5 w = none := by
      unfold f_X4_cue f_X4_cue_46 f_X4_cue_78
      simp only [yxf hx, Option.bind_some, show ((-1 : Int32) < -1) = False by decide, show ((-1 : Int32) < 0) = True by decide, if_true, if_false]
      by_cases c1 : x1 < 0
      · rw [if_pos c1]
      rw [if_neg c1]
      by_cases c2 : 2400 < x1
      · rw [if_pos c2]
      rw [if_neg c2]
      by_cases c3 : x3 < 1
      · rw [if_pos c3]
      rw [if_neg c3]
      by_cases c4 : x3 ≤ 40
      case neg => rw [if_neg c4]
      rw [if_pos c4]
      by_cases c5 : x4 < 0
      · rw [if_pos c5]
      rw [if_neg c5]
      by_cases c6 : 4 ≤ x4
      · rw [if_pos c6]
      rw [if_neg c6]
      by_cases c7 : x5 < 0
      · rw [if_pos c7]
      rw [if_neg c7, if_neg]
      rcases c with c | c | c | c | c | c | c | c
      · exact absurd c c1
      · exact absurd c c2
      · exact absurd c c3
      · exact absurd c4 c
      · exact absurd c c5
      · exact absurd c c6
      · exact absurd c c7
      · exact c
    have e2 : e_X4_cue (some z) x1 (-1) x3 x4 x5 w = some (0, yBp w) := by
      unfold e_X4_cue e_X4_cue_46 e_X4_cue_78
      simp only [yxf hx, Option.bind_some, show ((-1 : Int32) < -1) = False by decide, show ((-1 : Int32) < 0) = True by decide, if_true, if_false]
      by_cases c1 : x1 < 0
      · rw [if_pos c1]; rfl
      rw [if_neg c1]
      by_cases c2 : 2400 < x1
      · rw [if_pos c2]; rfl
      rw [if_neg c2]
      by_cases c3 : x3 < 1
      · rw [if_pos c3]; rfl
      rw [if_neg c3]
      by_cases c4 : x3 ≤ 40
      case neg => rw [if_neg c4]; rfl
      rw [if_pos c4]
      by_cases c5 : x4 < 0
      · rw [if_pos c5]; rfl
      rw [if_neg c5]
      by_cases c6 : 4 ≤ x4
      · rw [if_pos c6]; rfl
      rw [if_neg c6]
      by_cases c7 : x5 < 0
      · rw [if_pos c7]; rfl
      rw [if_neg c7, if_neg]
      · rfl
      rcases c with c | c | c | c | c | c | c | c
      · exact absurd c c1
      · exact absurd c c2
      · exact absurd c c3
      · exact absurd c4 c
      · exact absurd c c5
      · exact absurd c c6
      · exact absurd c c7
      · exact c
    have eM : f_X8_cue (some (z + 10)) x1 (-1) x3 x4 x5 (yBp w) = some (0, yTh z 2 (yBp w)) := by
      unfold f_X8_cue f_X8_cue_27 f_X8_cue_28 f_X8_cue_78
      simp only [if_true, ymf hmB, Option.bind_some, y_start0 hmB, ymf m0B, y_isIn, l4, e83 _ rfl]
      by_cases c1 : x1 < 0
      · rw [if_pos c1, if_pos rfl]
      rw [if_neg c1]
      by_cases c2 : 2400 < x1
      · rw [if_pos c2, if_pos rfl]
      rw [if_neg c2, if_neg (by decide)]
      by_cases c3 : x3 < 1
      · rw [if_pos c3, if_pos rfl]
      rw [if_neg c3]
      by_cases c4 : x3 ≤ 40
      case neg => rw [if_pos (Int32.not_le.mp c4), if_pos rfl]
      rw [if_neg (Int32.not_lt.mpr c4), if_neg (by decide)]
      by_cases c5 : x4 < 0
      · rw [if_pos c5, if_pos rfl]
      rw [if_neg c5]
      by_cases c6 : 4 ≤ x4
      · rw [if_pos c6, if_pos rfl]
      rw [if_neg c6, if_neg (by decide)]
      by_cases c7 : x5 < 0
      · rw [if_pos c7, if_pos rfl]
      have c8 : 2 < x5 := by
        rcases c with c | c | c | c | c | c | c | c
        · exact absurd c c1
        · exact absurd c c2
        · exact absurd c c3
        · exact absurd c4 c
        · exact absurd c c5
        · exact absurd c c6
        · exact absurd c c7
        · exact Int32.not_le.mp c
      rw [if_neg c7, if_pos c8, if_pos rfl]
    exact yOK_no (k := 2) (by simp [f_L_cue, yxf hx, e1, e2, xk_or]) eM hm (by decide)
  by_cases c1 : x1 < 0
  · exact no (Or.inl c1)
  by_cases c2 : 2400 < x1
  · exact no (Or.inr (Or.inl c2))
  by_cases c3 : x3 < 1
  · exact no (Or.inr (Or.inr (Or.inl c3)))
  by_cases c4 : x3 ≤ 40
  case neg => exact no (Or.inr (Or.inr (Or.inr (Or.inl c4))))
  by_cases c5 : x4 < 0
  · exact no (Or.inr (Or.inr (Or.inr (Or.inr (Or.inl c5)))))
  by_cases c6 : 4 ≤ x4
  · exact no (Or.inr (Or.inr (Or.inr (Or.inr (Or.inr (Or.inl c6))))))
  by_cases c7 : x5 < 0
  · exact no (Or.inr (Or.inr (Or.inr (Or.inr (Or.inr (Or.inr (Or.inl c7)))))))
  by_cases c8 : x5 ≤ 2
  case neg => exact no (Or.inr (Or.inr (Or.inr (Or.inr (Or.inr (Or.inr (Or.inr c8)))))))
  -- the class
  obtain ⟨w3, i1, ⟨fs, i2⟩, i3, i4⟩ := y_X0i 0 x1 (-1) x3 x4 x5 w
  have hk0 : yKp w (xk_nw w 1 xf_1) := yKp.nw w _
  have hx0 := hx.kp hk0 hz
  have hx3 := hx.kp i3 hz
  obtain ⟨w1, a1, a2, a3, a4, a5, a6, a7⟩ := y_addX hx hm i3 (a := z + 3) (Or.inr (Or.inl rfl)) i2 (Nat.le_refl _) i4
  have e1 : f_X4_cue (some z) x1 (-1) x3 x4 x5 w = some (0, w1) := by
    unfold f_X4_cue
    simp only [yxf hx, Option.bind_some, show ((-1 : Int32) < -1) = False by decide, show ((-1 : Int32) < 0) = True by decide, if_true, if_false, if_neg c1, if_neg c2, if_neg c3, if_pos c4, if_neg c5, if_neg c6, if_neg c7, if_pos c8, show ((0 : Int32) < 8) = True by decide, yxf hx0, i1, yxf hx3, a1, xr_gI (k := 0) a5 rfl]
  obtain ⟨wA, b1, b2, b3⟩ := y_wrap e1 a6 a7 ho
  have hmA := hm.cl b2
  have m0 : yMW z 0 (yTh z 0 wA) := hmA.th
  obtain ⟨w4, j1, ⟨fs2, j2⟩, j3, j4⟩ := y_X5i x1 (-1) x3 x4 x5 (yTh z 0 wA)
  have m4 := m0.kp j3
  have hz0 := m0.2.2.2.2.2.2.2
  obtain ⟨w5, g1, g2, g3, g4, g5⟩ := y_addM m0 j3 (a := z + 13) (v0 := (yTh z 0 wA).2.1) (Or.inr (Or.inr rfl)) (fun w' _ hq => xr_any ((hq _ (by omega) j4).trans j2))
  have eM : f_X8_cue (some (z + 10)) x1 (-1) x3 x4 x5 wA = some (0, w5) := by
    unfold f_X8_cue f_X8_cue_27 f_X8_cue_28 f_X8_cue_83 f_X8_cue_108
    simp only [if_true, ymf hmA, Option.bind_some, y_start0 hmA, ymf m0, y_isIn, l4, if_neg c1, if_neg c2, if_neg c3, if_neg (Int32.not_lt.mpr c4), if_neg c5, if_neg c6, if_neg c7, if_neg (Int32.not_lt.mpr c8), show ((1 : Int32) = 0) = False by decide, if_false, y_refuse0 m0, show ((0 : Int32) = 8) = False by decide, j1, ymf m4, g1, g3, g4, yMf_r g2]
    rfl
  exact ⟨0, wA, 0, w5, _, by unfold f_L_cue; rw [(yxf hx).1, Option.bind_some]; exact b1 _, b2, eM, g2, (yMo.th z 0 wA).tr g5, fun _ => b3⟩
end YR
