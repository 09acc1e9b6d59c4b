/-! numbers, rows, iterators; what is counted on a fresh object -/
theorem y_in16 {x : Int32} (h0 : ¬ x < 0) (h1 : ¬ 15 < x) : x = 0 ∨ x = 1 ∨ x = 2 ∨ x = 3 ∨ x = 4 ∨ x = 5 ∨ x = 6 ∨ x = 7 ∨ x = 8 ∨ x = 9 ∨ x = 10 ∨ x = 11 ∨ x = 12 ∨ x = 13 ∨ x = 14 ∨ x = 15 := by
  have h0 := Int32.not_lt.mp h0
  have h1 := Int32.not_lt.mp h1
  rw [Int32.le_iff_toInt_le] at h0 h1
  have e0 : (0 : Int32).toInt = 0 := by decide
  have e1 : (15 : Int32).toInt = 15 := by decide
  rw [e0] at h0
  rw [e1] at h1
  have h : x.toInt = 0 ∨ x.toInt = 1 ∨ x.toInt = 2 ∨ x.toInt = 3 ∨ x.toInt = 4 ∨ x.toInt = 5 ∨ x.toInt = 6 ∨ x.toInt = 7 ∨ x.toInt = 8 ∨ x.toInt = 9 ∨ x.toInt = 10 ∨ x.toInt = 11 ∨ x.toInt = 12 ∨ x.toInt = 13 ∨ x.toInt = 14 ∨ x.toInt = 15 := by omega
  rcases h with h | h | h | h | h | h | h | h | h | h | h | h | h | h | h | h
  · exact Or.inl (Int32.toInt_inj.mp (h.trans (by decide)))
  · exact Or.inr (Or.inl (Int32.toInt_inj.mp (h.trans (by decide))))
  · exact Or.inr (Or.inr (Or.inl (Int32.toInt_inj.mp (h.trans (by decide)))))
  · exact Or.inr (Or.inr (Or.inr (Or.inl (Int32.toInt_inj.mp (h.trans (by decide))))))
  · exact Or.inr (Or.inr (Or.inr (Or.inr (Or.inl (Int32.toInt_inj.mp (h.trans (by decide)))))))
  · exact Or.inr (Or.inr (Or.inr (Or.inr (Or.inr (Or.inl (Int32.toInt_inj.mp (h.trans (by decide))))))))
  · exact Or.inr (Or.inr (Or.inr (Or.inr (Or.inr (Or.inr (Or.inl (Int32.toInt_inj.mp (h.trans (by decide)))))))))
  · exact Or.inr (Or.inr (Or.inr (Or.inr (Or.inr (Or.inr (Or.inr (Or.inl (Int32.toInt_inj.mp (h.trans (by decide))))))))))
  · exact Or.inr (Or.inr (Or.inr (Or.inr (Or.inr (Or.inr (Or.inr (Or.inr (Or.inl (Int32.toInt_inj.mp (h.trans (by decide)))))))))))
  · exact Or.inr (Or.inr (Or.inr (Or.inr (Or.inr (Or.inr (Or.inr (Or.inr (Or.inr (Or.inl (Int32.toInt_inj.mp (h.trans (by decide))))))))))))
  · exact Or.inr (Or.inr (Or.inr (Or.inr (Or.inr (Or.inr (Or.inr (Or.inr (Or.inr (Or.inr (Or.inl (Int32.toInt_inj.mp (h.trans (by decide)))))))))))))
  · exact Or.inr (Or.inr (Or.inr (Or.inr (Or.inr (Or.inr (Or.inr (Or.inr (Or.inr (Or.inr (Or.inr (Or.inl (Int32.toInt_inj.mp (h.trans (by decide))))))))))))))
  · exact Or.inr (Or.inr (Or.inr (Or.inr (Or.inr (Or.inr (Or.inr (Or.inr (Or.inr (Or.inr (Or.inr (Or.inr (Or.inl (Int32.toInt_inj.mp (h.trans (by decide)))))))))))))))
  · exact Or.inr (Or.inr (Or.inr (Or.inr (Or.inr (Or.inr (Or.inr (Or.inr (Or.inr (Or.inr (Or.inr (Or.inr (Or.inr (Or.inl (Int32.toInt_inj.mp (h.trans (by decide))))))))))))))))
  · exact Or.inr (Or.inr (Or.inr (Or.inr (Or.inr (Or.inr (Or.inr (Or.inr (Or.inr (Or.inr (Or.inr (Or.inr (Or.inr (Or.inr (Or.inl (Int32.toInt_inj.mp (h.trans (by decide)))))))))))))))))
  · exact Or.inr (Or.inr (Or.inr (Or.inr (Or.inr (Or.inr (Or.inr (Or.inr (Or.inr (Or.inr (Or.inr (Or.inr (Or.inr (Or.inr (Or.inr (Int32.toInt_inj.mp (h.trans (by decide)))))))))))))))))
theorem y_ne16 {x k : Int32} (h : x < 0 ∨ 15 < x) (h0 : 0 ≤ k.toInt) (h1 : k.toInt ≤ 15) : (x = k) = False := by
  refine eq_false (fun e => ?_)
  subst e
  have e0 : (0 : Int32).toInt = 0 := by decide
  have e1 : (15 : Int32).toInt = 15 := by decide
  rcases h with h | h
  · rw [Int32.lt_iff_toInt_lt, e0] at h; omega
  · rw [Int32.lt_iff_toInt_lt, e1] at h; omega
def yV (x : Int32) : Int32 := if x = 0 then 2400 else 0
section YC
variable {z : Nat} {t : Int32} {v : Int64} {w : xWd}
theorem y_xcounts (hx : yXW z w) : f_X4_countGone (some z) w = some (0, w) ∧ f_X4_countMet (some z) w = some (0, w) ∧ f_X4_countRunningOver (some z) w = some (0, w) ∧ f_X4_countSpoiling (some z) w = some (0, w) ∧ f_X4_countClashes (some z) w = some (0, w) ∧ f_X4_countAllValid (some z) w = some (0, w) ∧ f_X4_payToAll (some z) w = some (0, w) := by
  refine ⟨?_, ?_, ?_, ?_, ?_, ?_, ?_⟩
  · simp [f_X4_countGone, yxf hx]
  · simp [f_X4_countMet, yxf hx]
  · simp [f_X4_countRunningOver, yxf hx]
  · simp [f_X4_countSpoiling, yxf hx]
  · unfold f_X4_countClashes f_X4_countClashes_4
    simp [yxf hx]
  · simp [f_X4_countAllValid, yxf hx]
  · simp [f_X4_payToAll, yxf hx]
theorem y_xmany (hx : yXW z w) {x : Int32} (h : x = 0 ∨ x = 1 ∨ x = 2 ∨ x = 3 ∨ x = 4 ∨ x = 5 ∨ x = 6 ∨ x = 7 ∨ x = 8 ∨ x = 9 ∨ x = 10 ∨ x = 11 ∨ x = 12 ∨ x = 13 ∨ x = 14 ∨ x = 15) : f_X4_many (some z) x w = some (yV x, w) := by
  rcases h with rfl | rfl | rfl | rfl | rfl | rfl | rfl | rfl | rfl | rfl | rfl | rfl | rfl | rfl | rfl | rfl <;> simp [f_X4_many, yxf hx, y_xcounts hx, yV]
theorem y_xmanyN (hx : yXW z w) {x : Int32} (h : x < 0 ∨ 15 < x) : f_X4_many (some z) x w = none ∧ e_X4_many (some z) x w = some (0, yBp w) := by
  constructor
  · simp only [f_X4_many, y_ne16 (k := 0) h (by decide) (by decide), y_ne16 (k := 1) h (by decide) (by decide), y_ne16 (k := 2) h (by decide) (by decide), y_ne16 (k := 3) h (by decide) (by decide), y_ne16 (k := 4) h (by decide) (by decide), y_ne16 (k := 5) h (by decide) (by decide), y_ne16 (k := 6) h (by decide) (by decide), y_ne16 (k := 7) h (by decide) (by decide), y_ne16 (k := 8) h (by decide) (by decide), y_ne16 (k := 9) h (by decide) (by decide), y_ne16 (k := 10) h (by decide) (by decide), y_ne16 (k := 11) h (by decide) (by decide), y_ne16 (k := 12) h (by decide) (by decide), y_ne16 (k := 13) h (by decide) (by decide), y_ne16 (k := 14) h (by decide) (by decide), y_ne16 (k := 15) h (by decide) (by decide), if_false]
  · simp only [e_X4_many, y_ne16 (k := 0) h (by decide) (by decide), y_ne16 (k := 1) h (by decide) (by decide), y_ne16 (k := 2) h (by decide) (by decide), y_ne16 (k := 3) h (by decide) (by decide), y_ne16 (k := 4) h (by decide) (by decide), y_ne16 (k := 5) h (by decide) (by decide), y_ne16 (k := 6) h (by decide) (by decide), y_ne16 (k := 7) h (by decide) (by decide), y_ne16 (k := 8) h (by decide) (by decide), y_ne16 (k := 9) h (by decide) (by decide), y_ne16 (k := 10) h (by decide) (by decide), y_ne16 (k := 11) h (by decide) (by decide), y_ne16 (k := 12) h (by decide) (by decide), y_ne16 (k := 13) h (by decide) (by decide), y_ne16 (k := 14) h (by decide) (by decide), y_ne16 (k := 15) h (by decide) (by decide), if_false]
    rfl
/-- an iterator over an empty list -/
theorem y_it {a : Nat} (h : yEm w a) (ha : a < w.2.1) : ∃ w1 : xWd, f_Jx4a65c_iterator_32c93 (some a) w = some (some w.2.1, w1) ∧ yKp w w1 ∧ xk_is w1 (some w.2.1) 8 = some () ∧ f_Jx35411_hasNext_aae02 (some w.2.1) w1 = some (0, w1) := by
  obtain ⟨w1, e1⟩ : ∃ w1 : xWd, w1 = (va_up w.1 w.2.1 (some (.inr (8, [.int 0, .int (-1), .int 0, .ref a]))), w.2.1 + 1, w.2.2) := ⟨_, rfl⟩
  have k1 : yKp w w1 := by rw [e1]; exact yKp.nw w _
  have c1 : w1.1 w.2.1 = some (.inr (8, [.int 0, .int (-1), .int 0, .ref a])) := by rw [e1]; exact xk_up_s _ _ _
  have l1 : yEm w1 a := h.kp k1 ha
  refine ⟨w1, ?_, k1, xr_is c1, ?_⟩
  · unfold f_Jx4a65c_iterator_32c93 f_Jx35411_init_45d68 xk_nw
    rw [Option.bind_some, xk_nw_pV (by simp [xf_8]), Option.bind_some, xk_nw_pV (by simp [xf_8]), Option.bind_some]
    have g3 : xk_gR (va_up w.1 w.2.1 (some (.inr (8, (xf_8.set 3 (va_rf (some a))).set 1 (.int (-1 : Int32))))), w.2.1 + 1, w.2.2) (some w.2.1) 8 3 = some (some a) := xr_gR (k := 3) (xk_up_s _ _ _) rfl
    have g4 : xk_gI (va_up w.1 w.2.1 (some (.inr (8, (xf_8.set 3 (va_rf (some a))).set 1 (.int (-1 : Int32))))), w.2.1 + 1, w.2.2) (some a) 4 0 = some 0 := xr_gI (k := 0) ((xk_up_n _ _ (Nat.ne_of_lt ha)).trans h) rfl
    rw [g3, Option.bind_some, g4, Option.bind_some, xk_nw_pV (by simp [xf_8]), Option.bind_some, Option.bind_some, e1]
    rfl
  · unfold f_Jx35411_hasNext_aae02 f_Jx35411_hasNext_aae02_19
    rw [xr_gI (k := 0) c1 rfl, Option.bind_some, xr_gR (k := 3) c1 rfl, Option.bind_some, (yem_f l1).2.2.2, Option.bind_some, if_pos rfl, yzb.1]
    rfl
theorem y_gone (hm : yMW z t w) : ∃ w1 : xWd, f_X8_gone (some (z + 10)) w = some (0, w1) ∧ yKp w w1 := by
  obtain ⟨w1, a1, a2, a3, a4⟩ := y_it hm.2.1 (by have := hm.2.2.2.2.2.2.2; omega)
  refine ⟨w1, ?_, a2⟩
  simp [f_X8_gone, ymf hm, a1, a3, a4]
theorem y_nA0 (w : xWd) (kd : Nat) (d : vp_A) : xk_nA w kd d 0 64 = some (va_up w.1 w.2.1 (some (.inl (kd, 0, d.2))), w.2.1 + 1, w.2.2) := by
  unfold xk_nA
  rw [if_neg (by decide), if_pos (by decide)]
  rfl
theorem y_len0 {w : xWd} {a kd : Nat} {d : vp_A} (h : w.1 a = some (.inl (kd, 0, d.2))) (hk : kd < xk_nk) : xk_len w (some a) = some 0 := (xr_len h hk).trans rfl
theorem y_frames (hm : yMW z t w) : ∃ w1 : xWd, f_X8_frames (some (z + 10)) w = some (some w.2.1, w1) ∧ yKp w w1 ∧ w1.1 w.2.1 = some (.inl (0, 0, xk_d0.2)) ∧ w.2.1 < w1.2.1 := by
  have L : xk_len (va_up w.1 w.2.1 (some (.inl (0, 0, xk_d0.2))), w.2.1 + 1, w.2.2) (some w.2.1) = some 0 := y_len0 (d := xk_d0) (xk_up_s _ _ _) (by decide)
  refine ⟨_, ?_, yKp.nw w _, xk_up_s _ _ _, Nat.lt_succ_self _⟩
  unfold f_X8_frames
  simp only [ymf hm, Option.bind_some, y_nA0, L]
  rw [if_pos (by decide)]
theorem y_beats (hm : yMW z t w) : ∃ w1 : xWd, f_X8_beats (some (z + 10)) w = some (some w.2.1, w1) ∧ yKp w w1 ∧ w1.1 w.2.1 = some (.inl (6, 0, xk_dR.2)) ∧ w.2.1 < w1.2.1 := by
  have L : xk_len (va_up w.1 w.2.1 (some (.inl (6, 0, xk_dR.2))), w.2.1 + 1, w.2.2) (some w.2.1) = some 0 := y_len0 (d := xk_dR) (xk_up_s _ _ _) (by decide)
  refine ⟨_, ?_, yKp.nw w _, xk_up_s _ _ _, Nat.lt_succ_self _⟩
  unfold f_X8_beats
  simp only [ymf hm, Option.bind_some, y_nA0, L]
  rw [if_pos (by decide)]
theorem y_met5 {x0 : Option Nat} {a : Nat} {x2 : Option Nat} (h : xk_len w (some a) = some 0) : f_X8_met x0 (some a) x2 w = some (0, w) := by
  unfold f_X8_met f_X8_met_5
  rw [h, Option.bind_some, if_pos (by decide)]
theorem y_met (hm : yMW z t w) : ∃ w1 : xWd, f_X8_met_ (some (z + 10)) w = some (0, w1) ∧ yKp w w1 := by
  obtain ⟨w1, a1, a2, a3, a4⟩ := y_frames hm
  have hm1 := hm.kp a2
  obtain ⟨w2, b1, b2, b3, b4⟩ := y_beats hm1
  have hm2 := hm1.kp b2
  have L := y_len0 (d := xk_d0) ((b2.2.2 _ a4).trans a3) (by decide)
  exact ⟨w2, by simp [f_X8_met_, ymf hm, a1, ymf hm1, b1, ymf hm2, y_met5 L], a2.tr b2⟩
theorem y_sheetNow (hm : yMW z t w) (x : Int32) : f_X8_sheetNow (some (z + 10)) x w = some (0, w) := by
  simp [f_X8_sheetNow, ymf hm]
theorem y_clashes (hm : yMW z t w) : f_X8_clashes (some (z + 10)) w = some (0, w) := by
  simp [f_X8_clashes, f_X8_clashes_4, ymf hm]
/-- the row of sixteen numbers -/
def yRw (w : xWd) (wi : xWd) : Prop := yKp w wi ∧ w.2.1 < wi.2.1 ∧ ∃ f : Nat → Int32, wi.1 w.2.1 = some (.inl (0, 16, .inl f)) ∧ f 0 = 2400 ∧ ∀ i, 0 < i → f i = 0
theorem yRw.kp {wi wj : xWd} (h : yRw w wi) (k : yKp wi wj) : yRw w wj := by
  obtain ⟨h1, h2, f, h3, h4⟩ := h
  exact ⟨h1.tr k, Nat.lt_of_lt_of_le h2 k.1, f, (k.2.2 _ h2).trans h3, h4⟩
theorem y_st {wi : xWd} {K : Int32} (h : yRw w wi) (h0 : ¬ K < 0) (h1 : ¬ 16 ≤ K.toNatClampNeg) (h2 : 0 < K.toNatClampNeg) : ∃ w' : xWd, xk_sI 0 wi (some w.2.1) K 0 = some w' ∧ yRw w w' := by
  obtain ⟨k1, k2, f, k3, k4, k5⟩ := h
  refine ⟨(va_up wi.1 w.2.1 (some (.inl (0, 16, .inl (upd f K.toNatClampNeg 0)))), wi.2), ?_, k1.up (Nat.le_refl _) _, k2, _, xk_up_s _ _ _, ?_, ?_⟩
  · simp only [xk_sI, xk_arr, k3, Option.bind_some]
    rw [if_pos ⟨trivial, fun q => q.elim h0 h1⟩]
  · simp only [upd]
    rw [if_neg (by omega)]
    exact k4
  · intro i hi
    simp only [upd]
    split
    · rfl
    · exact k5 i hi
theorem y_rd {wi : xWd} {x : Int32} (h : yRw w wi) (hx : x = 0 ∨ x = 1 ∨ x = 2 ∨ x = 3 ∨ x = 4 ∨ x = 5 ∨ x = 6 ∨ x = 7 ∨ x = 8 ∨ x = 9 ∨ x = 10 ∨ x = 11 ∨ x = 12 ∨ x = 13 ∨ x = 14 ∨ x = 15) : xk_lI 0 wi (some w.2.1) x = some (yV x) := by
  obtain ⟨k1, k2, f, k3, k4, k5⟩ := h
  rcases hx with rfl | rfl | rfl | rfl | rfl | rfl | rfl | rfl | rfl | rfl | rfl | rfl | rfl | rfl | rfl | rfl
  · simp only [xk_lI, xk_arr, k3, Option.bind_some]
    rw [if_pos ⟨Or.inl trivial, by decide⟩]
    exact congrArg some k4
  · simp only [xk_lI, xk_arr, k3, Option.bind_some]
    rw [if_pos ⟨Or.inl trivial, by decide⟩]
    exact congrArg some (k5 1 (by decide))
  · simp only [xk_lI, xk_arr, k3, Option.bind_some]
    rw [if_pos ⟨Or.inl trivial, by decide⟩]
    exact congrArg some (k5 2 (by decide))
  · simp only [xk_lI, xk_arr, k3, Option.bind_some]
    rw [if_pos ⟨Or.inl trivial, by decide⟩]
    exact congrArg some (k5 3 (by decide))
  · simp only [xk_lI, xk_arr, k3, Option.bind_some]
    rw [if_pos ⟨Or.inl trivial, by decide⟩]
    exact congrArg some (k5 4 (by decide))
  · simp only [xk_lI, xk_arr, k3, Option.bind_some]
    rw [if_pos ⟨Or.inl trivial, by decide⟩]
    exact congrArg some (k5 5 (by decide))
  · simp only [xk_lI, xk_arr, k3, Option.bind_some]
    rw [if_pos ⟨Or.inl trivial, by decide⟩]
    exact congrArg some (k5 6 (by decide))
  · simp only [xk_lI, xk_arr, k3, Option.bind_some]
    rw [if_pos ⟨Or.inl trivial, by decide⟩]
    exact congrArg some (k5 7 (by decide))
  · simp only [xk_lI, xk_arr, k3, Option.bind_some]
    rw [if_pos ⟨Or.inl trivial, by decide⟩]
    exact congrArg some (k5 8 (by decide))
  · simp only [xk_lI, xk_arr, k3, Option.bind_some]
    rw [if_pos ⟨Or.inl trivial, by decide⟩]
    exact congrArg some (k5 9 (by decide))
  · simp only [xk_lI, xk_arr, k3, Option.bind_some]
    rw [if_pos ⟨Or.inl trivial, by decide⟩]
    exact congrArg some (k5 10 (by decide))
  · simp only [xk_lI, xk_arr, k3, Option.bind_some]
    rw [if_pos ⟨Or.inl trivial, by decide⟩]
    exact congrArg some (k5 11 (by decide))
  · simp only [xk_lI, xk_arr, k3, Option.bind_some]
    rw [if_pos ⟨Or.inl trivial, by decide⟩]
    exact congrArg some (k5 12 (by decide))
  · simp only [xk_lI, xk_arr, k3, Option.bind_some]
    rw [if_pos ⟨Or.inl trivial, by decide⟩]
    exact congrArg some (k5 13 (by decide))
  · simp only [xk_lI, xk_arr, k3, Option.bind_some]
    rw [if_pos ⟨Or.inl trivial, by decide⟩]
    exact congrArg some (k5 14 (by decide))
  · simp only [xk_lI, xk_arr, k3, Option.bind_some]
    rw [if_pos ⟨Or.inl trivial, by decide⟩]
    exact congrArg some (k5 15 (by decide))
theorem y_row0 (w : xWd) : ∃ w2 w4 : xWd, xk_nA w 0 xk_d0 16 64 = some w2 ∧ yKp w w2 ∧ xk_sI 0 w2 (some w.2.1) 0 2400 = some w4 ∧ yRw w w4 := by
  refine ⟨(va_up w.1 w.2.1 (some (.inl (0, 16, .inl (fun _ => 0)))), w.2.1 + 1, w.2.2), (va_up (va_up w.1 w.2.1 (some (.inl (0, 16, .inl (fun _ => 0))))) w.2.1 (some (.inl (0, 16, .inl (upd (fun _ => 0) 0 2400)))), w.2.1 + 1, w.2.2), ?_, yKp.nw w _, ?_, (yKp.nw w _).up (Nat.le_refl _) _, Nat.lt_succ_self _, _, xk_up_s _ _ _, by simp [upd], fun i hi => by simp [upd]; omega⟩
  · unfold xk_nA
    rw [if_neg (by decide), if_pos (by decide)]
    rfl
  · simp only [xk_sI, xk_arr, xk_up_s, Option.bind_some]
    rw [if_pos ⟨trivial, by decide⟩]
    rfl
end YC
