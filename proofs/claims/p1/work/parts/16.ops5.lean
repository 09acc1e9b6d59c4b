/-! meanNote, digest -/
section YS
variable {z : Nat} {t : Int32} {v : Int64} {w : xWd}
theorem y_meanX (hx : yXW z w) : f_X4_meanNote (some z) w = some (FP.dconst0, w) := by
  unfold f_X4_meanNote f_X4_meanNote_76
  simp only [yxf hx, Option.bind_some, show ((0 : Int32) ≤ 0) = True by decide, if_true]
theorem y_meanM (hm : yMW z t w) : f_X8_meanNote (some (z + 10)) w = some (FP.dconst0, yTh z 0 w) := by
  have m0 : yMW z 0 (yTh z 0 w) := hm.th
  unfold f_X8_meanNote f_X8_meanNote_76
  rw [ymp hm]
  simp only [Option.bind_some, ymf m0, show ((0 : Int32) ≤ 0) = True by decide, if_true]
def yA (d : Int64) : Int64 := d * 31 + (0 : Int32).toInt64
def yDs : Nat → Int64 → Int32 → Int64
  | 0, d, _ => d
  | n + 1, d, k => yDs n (d * 31 + (yV k).toInt64) (k + 1)
theorem y_inc {k : Int32} (h : k.toInt < 100) (h0 : 0 ≤ k.toInt) : (k + 1).toInt = k.toInt + 1 := by
  rw [Int32.toInt_add, show (1 : Int32).toInt = 1 by decide]
  exact Int.bmod_eq_of_le (by omega) (by omega)
theorem y_xsheet (hx : yXW z w) {k : Int32} (h0 : ¬ k < 0) (h1 : k < 4) : f_X4_sheet (some z) k w = some (0, w) := by
  unfold f_X4_sheet
  simp only [yxf hx, Option.bind_some, if_neg h0, if_pos h1, show ((0 : Int32) ≤ 0) = True by decide, if_true]
theorem y_xwould (hx : yXW z w) : f_X4_wouldMeet (some z) 1200 24 w = some (0, w) := by
  have e : f_X4_refuseBadCut (some z) 1200 24 w = some w := by
    unfold f_X4_refuseBadCut f_X4_refuseBadCut_75
    simp only [yxf hx, Option.bind_some, show ((1200 : Int32) < 0) = False by decide, show ((2400 : Int32) < 1200) = False by decide, show ((24 : Int32) = 0) = False by decide, show ((24 : Int32) < -999) = False by decide, show ((24 : Int32) ≤ 999) = True by decide, show ((0 : Int32) ≤ 24) = True by decide, if_true, if_false]
  simp [f_X4_wouldMeet, yxf hx, e]
theorem y_empty {a : Nat} (h : yEm w a) : f_Jx4a65c_isEmpty_aae02 (some a) w = some (1, w) := by
  unfold f_Jx4a65c_isEmpty_aae02 f_Jx4a65c_isEmpty_aae02_12
  rw [(yem_f h).2.2.2, Option.bind_some, if_pos rfl, yzb.2]
  rfl
def yDe (d : Int64) : Int64 := yA (yA (yA (yA (yA d))))
theorem y_mix (d : Int64) (w : xWd) : f_X4_mixed d ((0 : Int32).toInt64) w = some (yA d, w) := rfl
theorem y_add8 (d : Int64) (w : xWd) : f_X8_add d ((0 : Int32).toInt64) w = some (yA d, w) := rfl
theorem y_xdig (hx : yXW z w) (d : Int64) : f_X4_digest_31 24 (some z) d 0 w = some (yDe d, w) := by
  have e5 : f_X4_digest_152 1 (some z) (yA (yA (yA (yA d)))) 4 w = some (yDe d, w) := by
    unfold f_X4_digest_152
    simp only [show ((4 : Int32) ≤ 4) = True by decide, if_true, yxf hx, Option.bind_some, show xk_nz 2 = some () by decide, show (2400 : Int32) / 2 = 1200 by decide, y_xwould hx, y_mix, y_empty hx.2.2.1, show ((1 : Int32) = 0) = False by decide, if_false]
    rfl
  have s0 := y_xsheet hx (k := 0) (by decide) (by decide)
  have s1 := y_xsheet hx (k := 1) (by decide) (by decide)
  have s2 := y_xsheet hx (k := 2) (by decide) (by decide)
  have s3 := y_xsheet hx (k := 3) (by decide) (by decide)
  have e1 : f_X4_digest_152 5 (some z) d 0 w = some (yDe d, w) := by
    unfold f_X4_digest_152
    simp only [show ((4 : Int32) ≤ 0) = False by decide, if_false, yxf hx, Option.bind_some, s0, y_mix, show (0 : Int32) + 1 = 1 by decide]
    unfold f_X4_digest_152
    simp only [show ((4 : Int32) ≤ 1) = False by decide, if_false, yxf hx, Option.bind_some, s1, y_mix, show (1 : Int32) + 1 = 2 by decide]
    unfold f_X4_digest_152
    simp only [show ((4 : Int32) ≤ 2) = False by decide, if_false, yxf hx, Option.bind_some, s2, y_mix, show (2 : Int32) + 1 = 3 by decide]
    unfold f_X4_digest_152
    simp only [show ((4 : Int32) ≤ 3) = False by decide, if_false, yxf hx, Option.bind_some, s3, y_mix, show (3 : Int32) + 1 = 4 by decide]
    exact e5
  unfold f_X4_digest_31 f_X4_digest_105
  simp only [yxf hx, Option.bind_some, show ((0 : Int32) ≤ 0) = True by decide, if_true, e1]
theorem y_xdig6 (hx : yXW z w) : ∀ (r fu : Nat) (d : Int64) (k : Int32), k.toInt + r = 16 → 0 ≤ k.toInt → r < fu → f_X4_digest_6 fu (some z) d k w = some (yDe (yDs r d k), w) := by
  have e15 : (15 : Int32).toInt = 15 := by decide
  intro r
  induction r with
  | zero =>
    intro fu d k h1 h2 h3
    obtain ⟨fu, rfl⟩ : ∃ f, fu = f + 1 := ⟨fu - 1, by omega⟩
    unfold f_X4_digest_6
    rw [if_pos (by rw [Int32.lt_iff_toInt_lt, e15]; omega), y_xdig hx]
    rfl
  | succ r ih =>
    intro fu d k h1 h2 h3
    obtain ⟨fu, rfl⟩ : ∃ f, fu = f + 1 := ⟨fu - 1, by omega⟩
    have c1 : ¬ (15 : Int32) < k := by rw [Int32.lt_iff_toInt_lt, e15]; omega
    have c0 : ¬ k < (0 : Int32) := by rw [Int32.lt_iff_toInt_lt, show (0 : Int32).toInt = 0 by decide]; omega
    have ki := y_inc (k := k) (by omega) h2
    have i2 := ih fu (d * 31 + (yV k).toInt64) (k + 1) (by omega) (by omega) (by omega)
    unfold f_X4_digest_6
    rw [if_neg c1, (yxf hx).1, Option.bind_some, y_xmany hx (y_in16 c0 c1), Option.bind_some]
    exact i2
theorem y_digX (hx : yXW z w) : f_X4_digest (some z) w = some (yDe (yDs 16 58231 0), w) := by
  unfold f_X4_digest
  exact y_xdig6 hx 16 17 _ 0 (by decide) (by decide) (by decide)
theorem y_mdig (hm : yMW z t w) (d : Int64) (x : Option Nat) : ∃ w1 : xWd, f_X8_digest_42 24 (some (z + 10)) d x 0 w = some (yDe d, w1) ∧ yKp w w1 := by
  obtain ⟨w1, a1, a2⟩ := y_wouldNow hm 1200 24
  have m1 := hm.kp a2
  have e5 : f_X8_digest_173 20 (some (z + 10)) (yA (yA (yA (yA d)))) 4 w = some (yDe d, w1) := by
    unfold f_X8_digest_173
    simp only [show ((4 : Int32) ≤ 4) = True by decide, if_true, ymf hm, Option.bind_some, show xk_nz 2 = some () by decide, show (2400 : Int32) / 2 = 1200 by decide, a1, y_add8, ymf m1, y_empty m1.2.2.2.1, show ((1 : Int32) = 0) = False by decide, if_false]
    rfl
  have e1 : f_X8_digest_173 24 (some (z + 10)) d 0 w = some (yDe d, w1) := by
    unfold f_X8_digest_173
    simp only [show ((4 : Int32) ≤ 0) = False by decide, if_false, ymf hm, Option.bind_some, y_sheetNow hm, y_add8, show (0 : Int32) + 1 = 1 by decide]
    unfold f_X8_digest_173
    simp only [show ((4 : Int32) ≤ 1) = False by decide, if_false, ymf hm, Option.bind_some, y_sheetNow hm, y_add8, show (1 : Int32) + 1 = 2 by decide]
    unfold f_X8_digest_173
    simp only [show ((4 : Int32) ≤ 2) = False by decide, if_false, ymf hm, Option.bind_some, y_sheetNow hm, y_add8, show (2 : Int32) + 1 = 3 by decide]
    unfold f_X8_digest_173
    simp only [show ((4 : Int32) ≤ 3) = False by decide, if_false, ymf hm, Option.bind_some, y_sheetNow hm, y_add8, show (3 : Int32) + 1 = 4 by decide]
    exact e5
  refine ⟨w1, ?_, a2⟩
  unfold f_X8_digest_42 f_X8_digest_123
  simp only [ymf hm, Option.bind_some, show ((0 : Int32) ≤ 0) = True by decide, if_true, e1]
theorem y_mdig11 : ∀ (r fu : Nat) (d : Int64) (k : Int32) (w : xWd), yMW z t w → k.toInt + r = 16 → 0 ≤ k.toInt → r < fu → ∃ w1 : xWd, f_X8_digest_11 fu (some (z + 10)) d k w = some (yDe (yDs r d k), w1) ∧ yKp w w1 := by
  have e16 : (16 : Int32).toInt = 16 := by decide
  have e15 : (15 : Int32).toInt = 15 := by decide
  intro r
  induction r with
  | zero =>
    intro fu d k w hm h1 h2 h3
    obtain ⟨fu, rfl⟩ : ∃ f, fu = f + 1 := ⟨fu - 1, by omega⟩
    obtain ⟨w1, a1, a2, -, -⟩ := y_beats hm
    obtain ⟨w2, b1, b2⟩ := y_mdig (hm.kp a2) d (some w.2.1)
    refine ⟨w2, ?_, a2.tr b2⟩
    unfold f_X8_digest_11
    rw [if_pos (by rw [Int32.le_iff_toInt_le, e16]; omega), (ymf hm).1, Option.bind_some, a1, Option.bind_some]
    exact b1
  | succ r ih =>
    intro fu d k w hm h1 h2 h3
    obtain ⟨fu, rfl⟩ : ∃ f, fu = f + 1 := ⟨fu - 1, by omega⟩
    have c1 : ¬ (16 : Int32) ≤ k := by rw [Int32.le_iff_toInt_le, e16]; omega
    have c15 : ¬ (15 : Int32) < k := by rw [Int32.lt_iff_toInt_lt, e15]; omega
    have c0 : ¬ k < (0 : Int32) := by rw [Int32.lt_iff_toInt_lt, show (0 : Int32).toInt = 0 by decide]; omega
    have ki := y_inc (k := k) (by omega) h2
    obtain ⟨w1, a1, a2⟩ := y_manyNow hm (y_in16 c0 c15)
    obtain ⟨w2, b1, b2⟩ := ih fu (d * 31 + (yV k).toInt64) (k + 1) w1 (hm.kp a2) (by omega) (by omega) (by omega)
    refine ⟨w2, ?_, a2.tr b2⟩
    unfold f_X8_digest_11
    rw [if_neg c1, (ymf hm).1, Option.bind_some, a1, Option.bind_some]
    exact b1
theorem y_digM (hm : yMW z t w) : ∃ w1 : xWd, f_X8_digest (some (z + 10)) w = some (yDe (yDs 16 58231 0), w1) ∧ yMo z w w1 := by
  have m0 : yMW z 0 (yTh z 0 w) := hm.th
  obtain ⟨w1, a1, a2⟩ := y_mdig11 16 17 58231 0 _ m0 (by decide) (by decide) (by decide)
  refine ⟨w1, ?_, (yMo.th z 0 w).tr (yMo.kp a2 m0.2.2.2.2.2.2.2)⟩
  unfold f_X8_digest
  rw [ymp hm, Option.bind_some]
  exact a1
end YS
