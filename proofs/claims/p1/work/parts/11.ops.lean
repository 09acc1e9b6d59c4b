/-! what all calls have in common; the calls that are refused on a fresh object -/
theorem y_isIn (x a b : Int32) (w : xWd) : f_X8_isIn x a b w = some (if x < a then 0 else if b < x then 0 else 1, w) := by
  unfold f_X8_isIn f_X8_isIn_14 f_X8_isIn_15
  by_cases h1 : x < a
  · rw [if_pos h1, if_pos h1, yzb.1]; rfl
  · rw [if_neg h1, if_neg h1]
    by_cases h2 : b < x
    · rw [if_pos h2, if_pos h2, yzb.1]; rfl
    · rw [if_neg h2, if_neg h2, yzb.2]; rfl
theorem y_ref16 {z : Nat} {t : Int32} {w : xWd} (h : yMW z t w) : f_X8_refuse_16 (some (z + 10)) w = some (if t ≤ 0 then 0 else 1, w) := by
  unfold f_X8_refuse_16 f_X8_refuse_28
  rw [(ymf h).2.1, Option.bind_some]
  by_cases c : t ≤ 0
  · rw [if_pos c, if_pos c, yzb.1]; rfl
  · rw [if_neg c, if_neg c, yzb.2]; rfl
theorem y_refuse0 {z : Nat} {w : xWd} (h : yMW z 0 w) (k : Int32) : f_X8_refuse (some (z + 10)) 0 k w = some (0, w) := by
  unfold f_X8_refuse
  rw [if_pos rfl, y_ref16 h]
  rfl
theorem y_refuse1 {z : Nat} {w : xWd} (h : yMW z 0 w) {k : Int32} (hk : ¬ k ≤ 0) : f_X8_refuse (some (z + 10)) 1 k w = some (1, yTh z k w) := by
  unfold f_X8_refuse
  rw [if_neg (by decide), (ymf h).2.1, Option.bind_some, if_pos rfl, ymp h, Option.bind_some, y_ref16 (h.th (t' := k)), if_neg hk]
theorem y_start0 {z : Nat} {t : Int32} {w : xWd} (h : yMW z t w) (k : Int32) : f_X8_start (some (z + 10)) 0 k w = some (0, yTh z 0 w) := by
  have h0 : yMW z 0 (yTh z 0 w) := h.th
  unfold f_X8_start
  rw [ymp h, Option.bind_some, (ymf h0).1, Option.bind_some, y_refuse0 h0, Option.bind_some, yzb.1]
  rfl
theorem y_start1 {z : Nat} {t : Int32} {w : xWd} (h : yMW z t w) : f_X8_start (some (z + 10)) 1 1 w = some (1, yTh z 1 w) := by
  have h0 : yMW z 0 (yTh z 0 w) := h.th
  unfold f_X8_start
  rw [ymp h, Option.bind_some, (ymf h0).1, Option.bind_some, y_refuse1 h0 (by decide), Option.bind_some, yzb.2, yTh_th]
  rfl
theorem y_noIn (x : Int32) : (if x < 0 then (0 : Int32) else if -1 < x then 0 else 1) = 0 := by
  by_cases h1 : x < 0
  · rw [if_pos h1]
  · rw [if_neg h1, if_pos]
    have h1 := Int32.not_lt.mp h1
    rw [Int32.le_iff_toInt_le] at h1
    rw [Int32.lt_iff_toInt_lt]
    have e1 : (0 : Int32).toInt = 0 := by decide
    have e2 : (-1 : Int32).toInt = -1 := by decide
    rw [e1] at h1
    rw [e2]
    omega
theorem y_isInN (x : Int32) (w : xWd) : f_X8_isIn x 0 (-1) w = some (0, w) := by rw [y_isIn, y_noIn]
theorem y_isNoCue {z : Nat} {t : Int32} {w : xWd} (h : yMW z t w) (x : Int32) : f_X8_isNoCue (some (z + 10)) x w = some (1, w) := by
  have e : (if x < 0 then (0 : Int32) else if (0 : Int32) - 1 < x then 0 else 1) = 0 := y_noIn x
  unfold f_X8_isNoCue f_X8_isNoCue_22
  simp only [ymf h, Option.bind_some, y_isIn, e, if_pos, yzb]
theorem y_isNoBar {z : Nat} {t : Int32} {w : xWd} (h : yMW z t w) (x y : Int32) : f_X8_isNoBar (some (z + 10)) x y w = some (1, w) := by
  unfold f_X8_isNoBar
  simp [ymf h, y_isNoCue h]
theorem y_cN {z : Nat} {w : xWd} (h : yXW z w) (x : Int32) : e_X4_cueNumbered (some z) x w = some (2, yBp w) := by
  unfold e_X4_cueNumbered
  by_cases c : x < 0
  · rw [if_pos c]; rfl
  · rw [if_neg c]
    simp only [yxf h, Option.bind_some, if_neg c]
    rfl
theorem y_eofHit {z : Nat} {w : xWd} (h : yXW z w) (x y : Int32) : e_X4_ofHit (some z) x y w = some (2, yBp w) := by
  unfold e_X4_ofHit
  by_cases c : x < 0
  · rw [if_pos c]; rfl
  · rw [if_neg c]
    simp only [yxf h, Option.bind_some, if_neg c]
    rfl
theorem y_eofTake {z : Nat} {w : xWd} (h : yXW z w) (x y : Int32) : e_X4_ofTake (some z) x y w = some (2, yBp w) := by
  unfold e_X4_ofTake
  by_cases c : x < 0
  · rw [if_pos c]; rfl
  · rw [if_neg c]
    simp only [yxf h, Option.bind_some, if_neg c]
    rfl
section YO
variable {z : Nat} {t : Int32} {w : xWd}
theorem y_bar (hx : yXW z w) (hm : yMW z t w) (x1 x2 x3 : Int32) (o : Option Nat) : f_L_bar (some z) x1 x2 x3 o w = some (1, yBp w) ∧ f_X8_bar (some (z + 10)) x1 x2 x3 (yBp w) = some (0, yTh z 1 (yBp w)) := by
  have hm := hm.kp (yKp.bp w)
  constructor
  · simp [f_L_bar, e_X4_bar, yxf hx, y_cN hx]
  · simp [f_X8_bar, f_X8_bar_58, ymf hm, y_isNoCue hm, y_start1 hm]
theorem y_retime (hx : yXW z w) (hm : yMW z t w) (x1 x2 x3 x4 : Int32) (o : Option Nat) : f_L_retime (some z) x1 x2 x3 x4 o w = some (1, yBp w) ∧ f_X8_retime (some (z + 10)) x1 x2 x3 x4 (yBp w) = some (0, yTh z 1 (yBp w)) := by
  have hm := hm.kp (yKp.bp w)
  constructor
  · simp [f_L_retime, e_X4_retime, yxf hx, y_cN hx]
  · simp [f_X8_retime, f_X8_retime_28, ymf hm, y_isNoBar hm, y_start1 hm]
theorem y_shift (hx : yXW z w) (hm : yMW z t w) (x1 x2 : Int32) (o : Option Nat) : f_L_shift (some z) x1 x2 o w = some (1, yBp w) ∧ f_X8_shift (some (z + 10)) x1 x2 (yBp w) = some (0, yTh z 1 (yBp w)) := by
  have hm := hm.kp (yKp.bp w)
  constructor
  · simp [f_L_shift, e_X4_shift, yxf hx, y_cN hx]
  · simp [f_X8_shift, f_X8_shift_38, ymf hm, y_isNoCue hm, y_start1 hm]
theorem y_take (hx : yXW z w) (hm : yMW z t w) (x1 x2 x3 : Int32) (o : Option Nat) : f_L_take (some z) x1 x2 x3 o w = some (1, yBp w) ∧ f_X8_take (some (z + 10)) x1 x2 x3 (yBp w) = some (0, yTh z 1 (yBp w)) := by
  have hm := hm.kp (yKp.bp w)
  constructor
  · simp [f_L_take, e_X4_take, yxf hx, y_cN hx]
  · simp [f_X8_take, ymf hm, y_isNoCue hm, y_start1 hm]
theorem y_ofHit (hx : yXW z w) (hm : yMW z t w) (x1 x2 : Int32) (o : Option Nat) : f_L_ofHit (some z) x1 x2 o w = some (1, yBp w) ∧ f_X8_ofHit (some (z + 10)) x1 x2 (yBp w) = some (0, yTh z 1 (yBp w)) := by
  have hm := hm.kp (yKp.bp w)
  constructor
  · simp [f_L_ofHit, yxf hx, y_eofHit hx]
  · simp [f_X8_ofHit, f_X8_ofHit_23, f_X8_ofHit_53, ymf hm, y_isInN, y_start1 hm]
theorem y_ofCue (hx : yXW z w) (hm : yMW z t w) (x1 x2 : Int32) (o : Option Nat) : f_L_ofCue (some z) x1 x2 o w = some (1, yBp w) ∧ f_X8_ofCue (some (z + 10)) x1 x2 (yBp w) = some (0, yTh z 1 (yBp w)) := by
  have hm := hm.kp (yKp.bp w)
  constructor
  · simp [f_L_ofCue, e_X4_ofCue, yxf hx, y_cN hx]
  · simp [f_X8_ofCue, f_X8_ofCue_36, ymf hm, y_isNoCue hm, y_start1 hm]
theorem y_ofBar (hx : yXW z w) (hm : yMW z t w) (x1 x2 x3 : Int32) (o : Option Nat) : f_L_ofBar (some z) x1 x2 x3 o w = some (1, yBp w) ∧ f_X8_ofBar (some (z + 10)) x1 x2 x3 (yBp w) = some (0, yTh z 1 (yBp w)) := by
  have hm := hm.kp (yKp.bp w)
  constructor
  · simp [f_L_ofBar, e_X4_ofBar, yxf hx, y_cN hx]
  · simp [f_X8_ofBar, f_X8_ofBar_36, ymf hm, y_isNoBar hm, y_start1 hm]
theorem y_beat (hx : yXW z w) (hm : yMW z t w) (x1 x2 : Int32) (o : Option Nat) : f_L_beat (some z) x1 x2 o w = some (1, yBp w) ∧ f_X8_beat (some (z + 10)) x1 x2 (yBp w) = some (0, yTh z 1 (yBp w)) := by
  have hm := hm.kp (yKp.bp w)
  constructor
  · simp [f_L_beat, e_X4_beat, yxf hx, y_cN hx]
  · simp [f_X8_beat, ymf hm, y_isNoCue hm, y_start1 hm]
theorem y_ofTake (hx : yXW z w) (hm : yMW z t w) (x1 x2 : Int32) (o : Option Nat) : f_L_ofTake (some z) x1 x2 o w = some (1, yBp w) ∧ f_X8_ofTake (some (z + 10)) x1 x2 (yBp w) = some (0, yTh z 1 (yBp w)) := by
  have hm := hm.kp (yKp.bp w)
  constructor
  · simp [f_L_ofTake, yxf hx, y_eofTake hx]
  · simp [f_X8_ofTake, f_X8_ofTake_23, f_X8_ofTake_52, ymf hm, y_isInN, y_start1 hm]
theorem y_join (hx : yXW z w) (hm : yMW z t w) (x1 : Int32) (o : Option Nat) : f_L_join (some z) x1 o w = some (1, yBp w) ∧ f_X8_join (some (z + 10)) x1 (yBp w) = some (0, yTh z 1 (yBp w)) := by
  have hm := hm.kp (yKp.bp w)
  constructor
  · simp [f_L_join, e_X4_join, yxf hx, y_cN hx]
  · simp [f_X8_join, f_X8_join_22, ymf hm, y_isNoCue hm, y_start1 hm]
theorem y_joined (hx : yXW z w) (hm : yMW z t w) (x1 x2 : Int32) (o : Option Nat) : f_L_joined (some z) x1 x2 o w = some (1, yBp w) ∧ f_X8_joined_ (some (z + 10)) x1 x2 (yBp w) = some (0, yTh z 1 (yBp w)) := by
  have hm := hm.kp (yKp.bp w)
  constructor
  · simp [f_L_joined, e_X4_joined, yxf hx, y_cN hx]
  · simp [f_X8_joined_, ymf hm, y_isNoBar hm, y_start1 hm]
theorem y_bestStart (hx : yXW z w) (hm : yMW z t w) (x1 : Int32) (o : Option Nat) : f_L_bestStart (some z) x1 o w = some (1, yBp w) ∧ f_X8_bestStart (some (z + 10)) x1 (yBp w) = some (0, yTh z 1 (yBp w)) := by
  have hm := hm.kp (yKp.bp w)
  constructor
  · simp [f_L_bestStart, e_X4_bestStart, yxf hx, y_cN hx]
  · simp [f_X8_bestStart, ymf hm, y_isNoCue hm, y_start1 hm]
theorem y_bestClick (hx : yXW z w) (hm : yMW z t w) (x1 x2 : Int32) (o : Option Nat) : f_L_bestClick (some z) x1 x2 o w = some (1, yBp w) ∧ f_X8_bestClick (some (z + 10)) x1 x2 (yBp w) = some (0, yTh z 1 (yBp w)) := by
  have hm := hm.kp (yKp.bp w)
  constructor
  · simp [f_L_bestClick, e_X4_bestClick, yxf hx, y_cN hx]
  · simp [f_X8_bestClick, ymf hm, y_isNoBar hm, y_start1 hm]
theorem y_close (hx : yXW z w) (hm : yMW z t w) (o : Option Nat) : f_L_close (some z) o w = some (1, yBp w) ∧ f_X8_close (some (z + 10)) (yBp w) = some (0, yTh z 1 (yBp w)) := by
  have hm := hm.kp (yKp.bp w)
  have e : e_X4_close (some z) w = some (1, yBp w) := by
    unfold e_X4_close
    rw [(yxf hx).2.2.2.2.2.2.2.2.2.1, Option.bind_some, if_pos rfl]
    rfl
  constructor
  · simp [f_L_close, f_X4_close, e, yxf hx, xk_or]
  · simp [f_X8_close, f_X8_close_13, ymf hm, y_start1 hm]
end YO
